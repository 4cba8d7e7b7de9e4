theorem dX6_isAlike_46 : decode cX6_isAlike 46 = .ok (.iload_n 3, 1) := by decide +kernel
theorem dX6_isAlike_47 : decode cX6_isAlike 47 = .ok (.ireturn, 1) := by decide +kernel
theorem dX6_isBodyAlike_0 : decode cX6_isBodyAlike 0 = .ok (.iload_n 2, 1) := by decide +kernel
theorem dX6_isBodyAlike_1 : decode cX6_isBodyAlike 1 = .ok (.ifCond .ne 47, 3) := by decide +kernel
theorem dX6_isBodyAlike_4 : decode cX6_isBodyAlike 4 = .ok (.aload_n 0, 1) := by decide +kernel
theorem dX6_isBodyAlike_5 : decode cX6_isBodyAlike 5 = .ok (.bipush 96, 2) := by decide +kernel
theorem dX6_isBodyAlike_7 : decode cX6_isBodyAlike 7 = .ok (.iload_n 1, 1) := by decide +kernel
theorem dX6_isBodyAlike_8 : decode cX6_isBodyAlike 8 = .ok (.iadd, 1) := by decide +kernel
theorem dX6_isBodyAlike_9 : decode cX6_isBodyAlike 9 = .ok (.iconst 1, 1) := by decide +kernel
theorem dX6_isBodyAlike_10 : decode cX6_isBodyAlike 10 = .ok (.invokevirtual 198, 3) := by decide +kernel
theorem dX6_isBodyAlike_13 : decode cX6_isBodyAlike 13 = .ok (.ifCond .eq 33, 3) := by decide +kernel
theorem dX6_isBodyAlike_16 : decode cX6_isBodyAlike 16 = .ok (.aload_n 0, 1) := by decide +kernel
theorem dX6_isBodyAlike_17 : decode cX6_isBodyAlike 17 = .ok (.sipush 157, 3) := by decide +kernel
theorem dX6_isBodyAlike_20 : decode cX6_isBodyAlike 20 = .ok (.iload_n 1, 1) := by decide +kernel
theorem dX6_isBodyAlike_21 : decode cX6_isBodyAlike 21 = .ok (.iadd, 1) := by decide +kernel
theorem dX6_isBodyAlike_22 : decode cX6_isBodyAlike 22 = .ok (.iconst 1, 1) := by decide +kernel
theorem dX6_isBodyAlike_23 : decode cX6_isBodyAlike 23 = .ok (.invokevirtual 198, 3) := by decide +kernel
theorem dX6_isBodyAlike_26 : decode cX6_isBodyAlike 26 = .ok (.ifCond .eq 20, 3) := by decide +kernel
theorem dX6_isBodyAlike_29 : decode cX6_isBodyAlike 29 = .ok (.aload_n 0, 1) := by decide +kernel
theorem dX6_isBodyAlike_30 : decode cX6_isBodyAlike 30 = .ok (.sipush 218, 3) := by decide +kernel
theorem dX6_isBodyAlike_33 : decode cX6_isBodyAlike 33 = .ok (.iload_n 1, 1) := by decide +kernel
theorem dX6_isBodyAlike_34 : decode cX6_isBodyAlike 34 = .ok (.iadd, 1) := by decide +kernel
theorem dX6_isBodyAlike_35 : decode cX6_isBodyAlike 35 = .ok (.iconst 1, 1) := by decide +kernel
theorem dX6_isBodyAlike_36 : decode cX6_isBodyAlike 36 = .ok (.invokevirtual 198, 3) := by decide +kernel
theorem dX6_isBodyAlike_39 : decode cX6_isBodyAlike 39 = .ok (.ifCond .eq 7, 3) := by decide +kernel
theorem dX6_isBodyAlike_42 : decode cX6_isBodyAlike 42 = .ok (.iconst 1, 1) := by decide +kernel
theorem dX6_isBodyAlike_43 : decode cX6_isBodyAlike 43 = .ok (.goto 4, 3) := by decide +kernel
theorem dX6_isBodyAlike_46 : decode cX6_isBodyAlike 46 = .ok (.iconst 0, 1) := by decide +kernel
theorem dX6_isBodyAlike_47 : decode cX6_isBodyAlike 47 = .ok (.ireturn, 1) := by decide +kernel
theorem dX6_isBodyAlike_48 : decode cX6_isBodyAlike 48 = .ok (.iload_n 2, 1) := by decide +kernel
theorem dX6_isBodyAlike_49 : decode cX6_isBodyAlike 49 = .ok (.iconst 2, 1) := by decide +kernel
theorem dX6_isBodyAlike_50 : decode cX6_isBodyAlike 50 = .ok (.if_icmp .ne 49, 3) := by decide +kernel
theorem dX6_isBodyAlike_53 : decode cX6_isBodyAlike 53 = .ok (.aload_n 0, 1) := by decide +kernel
theorem dX6_isBodyAlike_54 : decode cX6_isBodyAlike 54 = .ok (.sipush 279, 3) := by decide +kernel
theorem dX6_isBodyAlike_57 : decode cX6_isBodyAlike 57 = .ok (.iload_n 1, 1) := by decide +kernel
theorem dX6_isBodyAlike_58 : decode cX6_isBodyAlike 58 = .ok (.iadd, 1) := by decide +kernel
theorem dX6_isBodyAlike_59 : decode cX6_isBodyAlike 59 = .ok (.iconst 1, 1) := by decide +kernel
theorem dX6_isBodyAlike_60 : decode cX6_isBodyAlike 60 = .ok (.invokevirtual 198, 3) := by decide +kernel
theorem dX6_isBodyAlike_63 : decode cX6_isBodyAlike 63 = .ok (.ifCond .eq 32, 3) := by decide +kernel
theorem dX6_isBodyAlike_66 : decode cX6_isBodyAlike 66 = .ok (.aload_n 0, 1) := by decide +kernel
theorem dX6_isBodyAlike_67 : decode cX6_isBodyAlike 67 = .ok (.sipush 340, 3) := by decide +kernel
theorem dX6_isBodyAlike_70 : decode cX6_isBodyAlike 70 = .ok (.bipush 16, 2) := by decide +kernel
theorem dX6_isBodyAlike_72 : decode cX6_isBodyAlike 72 = .ok (.iload_n 1, 1) := by decide +kernel
theorem dX6_isBodyAlike_73 : decode cX6_isBodyAlike 73 = .ok (.imul, 1) := by decide +kernel
theorem dX6_isBodyAlike_74 : decode cX6_isBodyAlike 74 = .ok (.iadd, 1) := by decide +kernel
theorem dX6_isBodyAlike_75 : decode cX6_isBodyAlike 75 = .ok (.aload_n 0, 1) := by decide +kernel
theorem dX6_isBodyAlike_76 : decode cX6_isBodyAlike 76 = .ok (.getfield 7, 3) := by decide +kernel
theorem dX6_isBodyAlike_79 : decode cX6_isBodyAlike 79 = .ok (.sipush 279, 3) := by decide +kernel
theorem dX6_isBodyAlike_82 : decode cX6_isBodyAlike 82 = .ok (.iload_n 1, 1) := by decide +kernel
theorem dX6_isBodyAlike_83 : decode cX6_isBodyAlike 83 = .ok (.iadd, 1) := by decide +kernel
theorem dX6_isBodyAlike_84 : decode cX6_isBodyAlike 84 = .ok (.iaload, 1) := by decide +kernel
theorem dX6_isBodyAlike_85 : decode cX6_isBodyAlike 85 = .ok (.invokevirtual 198, 3) := by decide +kernel
theorem dX6_isBodyAlike_88 : decode cX6_isBodyAlike 88 = .ok (.ifCond .eq 7, 3) := by decide +kernel
theorem dX6_isBodyAlike_91 : decode cX6_isBodyAlike 91 = .ok (.iconst 1, 1) := by decide +kernel
theorem dX6_isBodyAlike_92 : decode cX6_isBodyAlike 92 = .ok (.goto 34, 3) := by decide +kernel
theorem dX6_isBodyAlike_95 : decode cX6_isBodyAlike 95 = .ok (.iconst 0, 1) := by decide +kernel
theorem dX6_isBodyAlike_96 : decode cX6_isBodyAlike 96 = .ok (.goto 30, 3) := by decide +kernel
theorem dX6_isBodyAlike_99 : decode cX6_isBodyAlike 99 = .ok (.iload_n 2, 1) := by decide +kernel
theorem dX6_isBodyAlike_100 : decode cX6_isBodyAlike 100 = .ok (.iconst 1, 1) := by decide +kernel
theorem dX6_isBodyAlike_101 : decode cX6_isBodyAlike 101 = .ok (.if_icmp .eq 20, 3) := by decide +kernel
theorem dX6_isBodyAlike_104 : decode cX6_isBodyAlike 104 = .ok (.aload_n 0, 1) := by decide +kernel
theorem dX6_isBodyAlike_105 : decode cX6_isBodyAlike 105 = .ok (.sipush 1316, 3) := by decide +kernel
theorem dX6_isBodyAlike_108 : decode cX6_isBodyAlike 108 = .ok (.bipush 40, 2) := by decide +kernel
theorem dX6_isBodyAlike_110 : decode cX6_isBodyAlike 110 = .ok (.iload_n 1, 1) := by decide +kernel
theorem dX6_isBodyAlike_111 : decode cX6_isBodyAlike 111 = .ok (.imul, 1) := by decide +kernel
theorem dX6_isBodyAlike_112 : decode cX6_isBodyAlike 112 = .ok (.iadd, 1) := by decide +kernel
theorem dX6_isBodyAlike_113 : decode cX6_isBodyAlike 113 = .ok (.bipush 40, 2) := by decide +kernel
theorem dX6_isBodyAlike_115 : decode cX6_isBodyAlike 115 = .ok (.invokevirtual 198, 3) := by decide +kernel
theorem dX6_isBodyAlike_118 : decode cX6_isBodyAlike 118 = .ok (.ifCond .eq 7, 3) := by decide +kernel
theorem dX6_isBodyAlike_121 : decode cX6_isBodyAlike 121 = .ok (.iconst 1, 1) := by decide +kernel
theorem dX6_isBodyAlike_122 : decode cX6_isBodyAlike 122 = .ok (.goto 4, 3) := by decide +kernel
theorem dX6_isBodyAlike_125 : decode cX6_isBodyAlike 125 = .ok (.iconst 0, 1) := by decide +kernel
theorem dX6_isBodyAlike_126 : decode cX6_isBodyAlike 126 = .ok (.ireturn, 1) := by decide +kernel
theorem dX6_isLeafAlike_0 : decode cX6_isLeafAlike 0 = .ok (.bipush 16, 2) := by decide +kernel
theorem dX6_isLeafAlike_2 : decode cX6_isLeafAlike 2 = .ok (.iload_n 1, 1) := by decide +kernel
theorem dX6_isLeafAlike_3 : decode cX6_isLeafAlike 3 = .ok (.imul, 1) := by decide +kernel
theorem dX6_isLeafAlike_4 : decode cX6_isLeafAlike 4 = .ok (.istore_n 2, 1) := by decide +kernel
theorem dX6_isLeafAlike_5 : decode cX6_isLeafAlike 5 = .ok (.aload_n 0, 1) := by decide +kernel
theorem dX6_isLeafAlike_6 : decode cX6_isLeafAlike 6 = .ok (.getfield 7, 3) := by decide +kernel
theorem dX6_isLeafAlike_9 : decode cX6_isLeafAlike 9 = .ok (.sipush 3852, 3) := by decide +kernel
theorem dX6_isLeafAlike_12 : decode cX6_isLeafAlike 12 = .ok (.iload_n 1, 1) := by decide +kernel
theorem dX6_isLeafAlike_13 : decode cX6_isLeafAlike 13 = .ok (.iadd, 1) := by decide +kernel
theorem dX6_isLeafAlike_14 : decode cX6_isLeafAlike 14 = .ok (.iaload, 1) := by decide +kernel
theorem dX6_isLeafAlike_15 : decode cX6_isLeafAlike 15 = .ok (.istore_n 3, 1) := by decide +kernel
theorem dX6_isLeafAlike_16 : decode cX6_isLeafAlike 16 = .ok (.aload_n 0, 1) := by decide +kernel
theorem dX6_isLeafAlike_17 : decode cX6_isLeafAlike 17 = .ok (.sipush 4620, 3) := by decide +kernel
theorem dX6_isLeafAlike_20 : decode cX6_isLeafAlike 20 = .ok (.iload_n 2, 1) := by decide +kernel
theorem dX6_isLeafAlike_21 : decode cX6_isLeafAlike 21 = .ok (.iadd, 1) := by decide +kernel
theorem dX6_isLeafAlike_22 : decode cX6_isLeafAlike 22 = .ok (.iload_n 3, 1) := by decide +kernel
theorem dX6_isLeafAlike_23 : decode cX6_isLeafAlike 23 = .ok (.invokevirtual 198, 3) := by decide +kernel
theorem dX6_isLeafAlike_26 : decode cX6_isLeafAlike 26 = .ok (.ifCond .eq 46, 3) := by decide +kernel
theorem dX6_isLeafAlike_29 : decode cX6_isLeafAlike 29 = .ok (.aload_n 0, 1) := by decide +kernel
theorem dX6_isLeafAlike_30 : decode cX6_isLeafAlike 30 = .ok (.sipush 6156, 3) := by decide +kernel
theorem dX6_isLeafAlike_33 : decode cX6_isLeafAlike 33 = .ok (.iload_n 2, 1) := by decide +kernel
theorem dX6_isLeafAlike_34 : decode cX6_isLeafAlike 34 = .ok (.iadd, 1) := by decide +kernel
theorem dX6_isLeafAlike_35 : decode cX6_isLeafAlike 35 = .ok (.iload_n 3, 1) := by decide +kernel
theorem dX6_isLeafAlike_36 : decode cX6_isLeafAlike 36 = .ok (.invokevirtual 198, 3) := by decide +kernel
theorem dX6_isLeafAlike_39 : decode cX6_isLeafAlike 39 = .ok (.ifCond .eq 33, 3) := by decide +kernel
theorem dX6_isLeafAlike_42 : decode cX6_isLeafAlike 42 = .ok (.aload_n 0, 1) := by decide +kernel
theorem dX6_isLeafAlike_43 : decode cX6_isLeafAlike 43 = .ok (.sipush 7692, 3) := by decide +kernel
theorem dX6_isLeafAlike_46 : decode cX6_isLeafAlike 46 = .ok (.iload_n 2, 1) := by decide +kernel
theorem dX6_isLeafAlike_47 : decode cX6_isLeafAlike 47 = .ok (.iadd, 1) := by decide +kernel
theorem dX6_isLeafAlike_48 : decode cX6_isLeafAlike 48 = .ok (.iload_n 3, 1) := by decide +kernel
theorem dX6_isLeafAlike_49 : decode cX6_isLeafAlike 49 = .ok (.invokevirtual 198, 3) := by decide +kernel
theorem dX6_isLeafAlike_52 : decode cX6_isLeafAlike 52 = .ok (.ifCond .eq 20, 3) := by decide +kernel
theorem dX6_isLeafAlike_55 : decode cX6_isLeafAlike 55 = .ok (.aload_n 0, 1) := by decide +kernel
theorem dX6_isLeafAlike_56 : decode cX6_isLeafAlike 56 = .ok (.sipush 9228, 3) := by decide +kernel
theorem dX6_isLeafAlike_59 : decode cX6_isLeafAlike 59 = .ok (.iload_n 2, 1) := by decide +kernel
theorem dX6_isLeafAlike_60 : decode cX6_isLeafAlike 60 = .ok (.iadd, 1) := by decide +kernel
theorem dX6_isLeafAlike_61 : decode cX6_isLeafAlike 61 = .ok (.iload_n 3, 1) := by decide +kernel
theorem dX6_isLeafAlike_62 : decode cX6_isLeafAlike 62 = .ok (.invokevirtual 198, 3) := by decide +kernel
theorem dX6_isLeafAlike_65 : decode cX6_isLeafAlike 65 = .ok (.ifCond .eq 7, 3) := by decide +kernel
theorem dX6_isLeafAlike_68 : decode cX6_isLeafAlike 68 = .ok (.iconst 1, 1) := by decide +kernel
theorem dX6_isLeafAlike_69 : decode cX6_isLeafAlike 69 = .ok (.goto 4, 3) := by decide +kernel
theorem dX6_isLeafAlike_72 : decode cX6_isLeafAlike 72 = .ok (.iconst 0, 1) := by decide +kernel
theorem dX6_isLeafAlike_73 : decode cX6_isLeafAlike 73 = .ok (.istore 4, 2) := by decide +kernel
theorem dX6_isLeafAlike_75 : decode cX6_isLeafAlike 75 = .ok (.iconst 0, 1) := by decide +kernel
theorem dX6_isLeafAlike_76 : decode cX6_isLeafAlike 76 = .ok (.istore 5, 2) := by decide +kernel
theorem dX6_isLeafAlike_78 : decode cX6_isLeafAlike 78 = .ok (.iload 5, 2) := by decide +kernel
theorem dX6_isLeafAlike_80 : decode cX6_isLeafAlike 80 = .ok (.iload_n 3, 1) := by decide +kernel
theorem dX6_isLeafAlike_81 : decode cX6_isLeafAlike 81 = .ok (.if_icmp .ge 87, 3) := by decide +kernel
theorem dX6_isLeafAlike_84 : decode cX6_isLeafAlike 84 = .ok (.iload 4, 2) := by decide +kernel
theorem dX6_isLeafAlike_86 : decode cX6_isLeafAlike 86 = .ok (.ifCond .eq 82, 3) := by decide +kernel
theorem dX6_isLeafAlike_89 : decode cX6_isLeafAlike 89 = .ok (.aload_n 0, 1) := by decide +kernel
theorem dX6_isLeafAlike_90 : decode cX6_isLeafAlike 90 = .ok (.getfield 7, 3) := by decide +kernel
theorem dX6_isLeafAlike_93 : decode cX6_isLeafAlike 93 = .ok (.sipush 6156, 3) := by decide +kernel
theorem dX6_isLeafAlike_96 : decode cX6_isLeafAlike 96 = .ok (.iload_n 2, 1) := by decide +kernel
theorem dX6_isLeafAlike_97 : decode cX6_isLeafAlike 97 = .ok (.iadd, 1) := by decide +kernel
theorem dX6_isLeafAlike_98 : decode cX6_isLeafAlike 98 = .ok (.iload 5, 2) := by decide +kernel
theorem dX6_isLeafAlike_100 : decode cX6_isLeafAlike 100 = .ok (.iadd, 1) := by decide +kernel
theorem dX6_isLeafAlike_101 : decode cX6_isLeafAlike 101 = .ok (.iaload, 1) := by decide +kernel
theorem dX6_isLeafAlike_102 : decode cX6_isLeafAlike 102 = .ok (.iconst 1, 1) := by decide +kernel
theorem dX6_isLeafAlike_103 : decode cX6_isLeafAlike 103 = .ok (.if_icmp .ne 19, 3) := by decide +kernel
theorem dX6_isLeafAlike_106 : decode cX6_isLeafAlike 106 = .ok (.aload_n 0, 1) := by decide +kernel
theorem dX6_isLeafAlike_107 : decode cX6_isLeafAlike 107 = .ok (.sipush 10764, 3) := by decide +kernel
theorem dX6_isLeafAlike_110 : decode cX6_isLeafAlike 110 = .ok (.iload_n 2, 1) := by decide +kernel
theorem dX6_isLeafAlike_111 : decode cX6_isLeafAlike 111 = .ok (.iadd, 1) := by decide +kernel
theorem dX6_isLeafAlike_112 : decode cX6_isLeafAlike 112 = .ok (.iload 5, 2) := by decide +kernel
theorem dX6_isLeafAlike_114 : decode cX6_isLeafAlike 114 = .ok (.iadd, 1) := by decide +kernel
theorem dX6_isLeafAlike_115 : decode cX6_isLeafAlike 115 = .ok (.iconst 1, 1) := by decide +kernel
theorem dX6_isLeafAlike_116 : decode cX6_isLeafAlike 116 = .ok (.invokevirtual 198, 3) := by decide +kernel
theorem dX6_isLeafAlike_119 : decode cX6_isLeafAlike 119 = .ok (.ifCond .eq 40, 3) := by decide +kernel
theorem dX6_isLeafAlike_122 : decode cX6_isLeafAlike 122 = .ok (.aload_n 0, 1) := by decide +kernel
theorem dX6_isLeafAlike_123 : decode cX6_isLeafAlike 123 = .ok (.aload_n 0, 1) := by decide +kernel
theorem dX6_isLeafAlike_124 : decode cX6_isLeafAlike 124 = .ok (.getfield 7, 3) := by decide +kernel
theorem dX6_isLeafAlike_127 : decode cX6_isLeafAlike 127 = .ok (.sipush 4620, 3) := by decide +kernel
theorem dX6_isLeafAlike_130 : decode cX6_isLeafAlike 130 = .ok (.iload_n 2, 1) := by decide +kernel
theorem dX6_isLeafAlike_131 : decode cX6_isLeafAlike 131 = .ok (.iadd, 1) := by decide +kernel
theorem dX6_isLeafAlike_132 : decode cX6_isLeafAlike 132 = .ok (.iload 5, 2) := by decide +kernel
theorem dX6_isLeafAlike_134 : decode cX6_isLeafAlike 134 = .ok (.iadd, 1) := by decide +kernel
theorem dX6_isLeafAlike_135 : decode cX6_isLeafAlike 135 = .ok (.iaload, 1) := by decide +kernel
theorem dX6_isLeafAlike_136 : decode cX6_isLeafAlike 136 = .ok (.aload_n 0, 1) := by decide +kernel
theorem dX6_isLeafAlike_137 : decode cX6_isLeafAlike 137 = .ok (.getfield 7, 3) := by decide +kernel
theorem dX6_isLeafAlike_140 : decode cX6_isLeafAlike 140 = .ok (.sipush 6156, 3) := by decide +kernel
theorem dX6_isLeafAlike_143 : decode cX6_isLeafAlike 143 = .ok (.iload_n 2, 1) := by decide +kernel
theorem dX6_isLeafAlike_144 : decode cX6_isLeafAlike 144 = .ok (.iadd, 1) := by decide +kernel
theorem dX6_isLeafAlike_145 : decode cX6_isLeafAlike 145 = .ok (.iload 5, 2) := by decide +kernel
theorem dX6_isLeafAlike_147 : decode cX6_isLeafAlike 147 = .ok (.iadd, 1) := by decide +kernel
theorem dX6_isLeafAlike_148 : decode cX6_isLeafAlike 148 = .ok (.iaload, 1) := by decide +kernel
theorem dX6_isLeafAlike_149 : decode cX6_isLeafAlike 149 = .ok (.invokevirtual 201, 3) := by decide +kernel
theorem dX6_isLeafAlike_152 : decode cX6_isLeafAlike 152 = .ok (.ifCond .eq 7, 3) := by decide +kernel
theorem dX6_isLeafAlike_155 : decode cX6_isLeafAlike 155 = .ok (.iconst 1, 1) := by decide +kernel
theorem dX6_isLeafAlike_156 : decode cX6_isLeafAlike 156 = .ok (.goto 4, 3) := by decide +kernel
theorem dX6_isLeafAlike_159 : decode cX6_isLeafAlike 159 = .ok (.iconst 0, 1) := by decide +kernel
theorem dX6_isLeafAlike_160 : decode cX6_isLeafAlike 160 = .ok (.istore 4, 2) := by decide +kernel
theorem dX6_isLeafAlike_162 : decode cX6_isLeafAlike 162 = .ok (.iinc 5 1, 3) := by decide +kernel
theorem dX6_isLeafAlike_165 : decode cX6_isLeafAlike 165 = .ok (.goto (-87), 3) := by decide +kernel
theorem dX6_isLeafAlike_168 : decode cX6_isLeafAlike 168 = .ok (.iload 4, 2) := by decide +kernel
theorem dX6_isLeafAlike_170 : decode cX6_isLeafAlike 170 = .ok (.ireturn, 1) := by decide +kernel
theorem dX6_firstBelow_0 : decode cX6_firstBelow 0 = .ok (.iload_n 1, 1) := by decide +kernel
theorem dX6_firstBelow_1 : decode cX6_firstBelow 1 = .ok (.istore_n 2, 1) := by decide +kernel
theorem dX6_firstBelow_2 : decode cX6_firstBelow 2 = .ok (.aload_n 0, 1) := by decide +kernel
theorem dX6_firstBelow_3 : decode cX6_firstBelow 3 = .ok (.sipush 3756, 3) := by decide +kernel
theorem dX6_firstBelow_6 : decode cX6_firstBelow 6 = .ok (.iload_n 2, 1) := by decide +kernel
theorem dX6_firstBelow_7 : decode cX6_firstBelow 7 = .ok (.iadd, 1) := by decide +kernel
theorem dX6_firstBelow_8 : decode cX6_firstBelow 8 = .ok (.iaload, 1) := by decide +kernel
theorem dX6_firstBelow_9 : decode cX6_firstBelow 9 = .ok (.iconst 1, 1) := by decide +kernel
theorem dX6_firstBelow_10 : decode cX6_firstBelow 10 = .ok (.if_icmp .le 17, 3) := by decide +kernel
theorem dX6_firstBelow_13 : decode cX6_firstBelow 13 = .ok (.aload_n 0, 1) := by decide +kernel
theorem dX6_firstBelow_14 : decode cX6_firstBelow 14 = .ok (.sipush 4044, 3) := by decide +kernel
theorem dX6_firstBelow_17 : decode cX6_firstBelow 17 = .ok (.bipush 6, 2) := by decide +kernel
theorem dX6_firstBelow_19 : decode cX6_firstBelow 19 = .ok (.iload_n 2, 1) := by decide +kernel
theorem dX6_firstBelow_20 : decode cX6_firstBelow 20 = .ok (.imul, 1) := by decide +kernel
theorem dX6_firstBelow_21 : decode cX6_firstBelow 21 = .ok (.iadd, 1) := by decide +kernel
theorem dX6_firstBelow_22 : decode cX6_firstBelow 22 = .ok (.iaload, 1) := by decide +kernel
theorem dX6_firstBelow_23 : decode cX6_firstBelow 23 = .ok (.istore_n 2, 1) := by decide +kernel
theorem dX6_firstBelow_24 : decode cX6_firstBelow 24 = .ok (.goto (-22), 3) := by decide +kernel
theorem dX6_firstBelow_27 : decode cX6_firstBelow 27 = .ok (.bipush 16, 2) := by decide +kernel
theorem dX6_firstBelow_29 : decode cX6_firstBelow 29 = .ok (.iload_n 2, 1) := by decide +kernel
theorem dX6_firstBelow_30 : decode cX6_firstBelow 30 = .ok (.imul, 1) := by decide +kernel
theorem dX6_firstBelow_31 : decode cX6_firstBelow 31 = .ok (.ireturn, 1) := by decide +kernel
theorem dX6_isInnerAlike_0 : decode cX6_isInnerAlike 0 = .ok (.aload_n 0, 1) := by decide +kernel
theorem dX6_isInnerAlike_1 : decode cX6_isInnerAlike 1 = .ok (.getfield 7, 3) := by decide +kernel
theorem dX6_isInnerAlike_4 : decode cX6_isInnerAlike 4 = .ok (.sipush 3852, 3) := by decide +kernel
theorem dX6_isInnerAlike_7 : decode cX6_isInnerAlike 7 = .ok (.iload_n 1, 1) := by decide +kernel
theorem dX6_isInnerAlike_8 : decode cX6_isInnerAlike 8 = .ok (.iadd, 1) := by decide +kernel
theorem dX6_isInnerAlike_9 : decode cX6_isInnerAlike 9 = .ok (.iaload, 1) := by decide +kernel
theorem dX6_isInnerAlike_10 : decode cX6_isInnerAlike 10 = .ok (.istore_n 2, 1) := by decide +kernel
theorem dX6_isInnerAlike_11 : decode cX6_isInnerAlike 11 = .ok (.aload_n 0, 1) := by decide +kernel
theorem dX6_isInnerAlike_12 : decode cX6_isInnerAlike 12 = .ok (.sipush 4044, 3) := by decide +kernel
theorem dX6_isInnerAlike_15 : decode cX6_isInnerAlike 15 = .ok (.bipush 6, 2) := by decide +kernel
theorem dX6_isInnerAlike_17 : decode cX6_isInnerAlike 17 = .ok (.iload_n 1, 1) := by decide +kernel
theorem dX6_isInnerAlike_18 : decode cX6_isInnerAlike 18 = .ok (.imul, 1) := by decide +kernel
theorem dX6_isInnerAlike_19 : decode cX6_isInnerAlike 19 = .ok (.iadd, 1) := by decide +kernel
theorem dX6_isInnerAlike_20 : decode cX6_isInnerAlike 20 = .ok (.iload_n 2, 1) := by decide +kernel
theorem dX6_isInnerAlike_21 : decode cX6_isInnerAlike 21 = .ok (.invokevirtual 198, 3) := by decide +kernel
theorem dX6_isInnerAlike_24 : decode cX6_isInnerAlike 24 = .ok (.istore_n 3, 1) := by decide +kernel
theorem dX6_isInnerAlike_25 : decode cX6_isInnerAlike 25 = .ok (.iconst 0, 1) := by decide +kernel
theorem dX6_isInnerAlike_26 : decode cX6_isInnerAlike 26 = .ok (.istore 4, 2) := by decide +kernel
theorem dX6_isInnerAlike_28 : decode cX6_isInnerAlike 28 = .ok (.iload 4, 2) := by decide +kernel
theorem dX6_isInnerAlike_30 : decode cX6_isInnerAlike 30 = .ok (.iload_n 2, 1) := by decide +kernel
theorem dX6_isInnerAlike_31 : decode cX6_isInnerAlike 31 = .ok (.if_icmp .ge 144, 3) := by decide +kernel
theorem dX6_isInnerAlike_34 : decode cX6_isInnerAlike 34 = .ok (.iload_n 3, 1) := by decide +kernel
theorem dX6_isInnerAlike_35 : decode cX6_isInnerAlike 35 = .ok (.ifCond .eq 140, 3) := by decide +kernel
theorem dX6_isInnerAlike_38 : decode cX6_isInnerAlike 38 = .ok (.aload_n 0, 1) := by decide +kernel
theorem dX6_isInnerAlike_39 : decode cX6_isInnerAlike 39 = .ok (.getfield 7, 3) := by decide +kernel
theorem dX6_isInnerAlike_42 : decode cX6_isInnerAlike 42 = .ok (.aload_n 0, 1) := by decide +kernel
theorem dX6_isInnerAlike_43 : decode cX6_isInnerAlike 43 = .ok (.getfield 7, 3) := by decide +kernel
theorem dX6_isInnerAlike_46 : decode cX6_isInnerAlike 46 = .ok (.sipush 4044, 3) := by decide +kernel
theorem dX6_isInnerAlike_49 : decode cX6_isInnerAlike 49 = .ok (.bipush 6, 2) := by decide +kernel
theorem dX6_isInnerAlike_51 : decode cX6_isInnerAlike 51 = .ok (.iload_n 1, 1) := by decide +kernel
theorem dX6_isInnerAlike_52 : decode cX6_isInnerAlike 52 = .ok (.imul, 1) := by decide +kernel
theorem dX6_isInnerAlike_53 : decode cX6_isInnerAlike 53 = .ok (.iadd, 1) := by decide +kernel
theorem dX6_isInnerAlike_54 : decode cX6_isInnerAlike 54 = .ok (.iload 4, 2) := by decide +kernel
theorem dX6_isInnerAlike_56 : decode cX6_isInnerAlike 56 = .ok (.iadd, 1) := by decide +kernel
theorem dX6_isInnerAlike_57 : decode cX6_isInnerAlike 57 = .ok (.iaload, 1) := by decide +kernel
theorem dX6_isInnerAlike_58 : decode cX6_isInnerAlike 58 = .ok (.invokestatic 204, 3) := by decide +kernel
theorem dX6_isInnerAlike_61 : decode cX6_isInnerAlike 61 = .ok (.istore 5, 2) := by decide +kernel
theorem dX6_isInnerAlike_63 : decode cX6_isInnerAlike 63 = .ok (.aload_n 0, 1) := by decide +kernel
theorem dX6_isInnerAlike_64 : decode cX6_isInnerAlike 64 = .ok (.getfield 16, 3) := by decide +kernel
theorem dX6_isInnerAlike_67 : decode cX6_isInnerAlike 67 = .ok (.aload_n 0, 1) := by decide +kernel
theorem dX6_isInnerAlike_68 : decode cX6_isInnerAlike 68 = .ok (.getfield 16, 3) := by decide +kernel
theorem dX6_isInnerAlike_71 : decode cX6_isInnerAlike 71 = .ok (.sipush 4044, 3) := by decide +kernel
theorem dX6_isInnerAlike_74 : decode cX6_isInnerAlike 74 = .ok (.bipush 6, 2) := by decide +kernel
theorem dX6_isInnerAlike_76 : decode cX6_isInnerAlike 76 = .ok (.iload_n 1, 1) := by decide +kernel
theorem dX6_isInnerAlike_77 : decode cX6_isInnerAlike 77 = .ok (.imul, 1) := by decide +kernel
theorem dX6_isInnerAlike_78 : decode cX6_isInnerAlike 78 = .ok (.iadd, 1) := by decide +kernel
theorem dX6_isInnerAlike_79 : decode cX6_isInnerAlike 79 = .ok (.iload 4, 2) := by decide +kernel
theorem dX6_isInnerAlike_81 : decode cX6_isInnerAlike 81 = .ok (.iadd, 1) := by decide +kernel
theorem dX6_isInnerAlike_82 : decode cX6_isInnerAlike 82 = .ok (.iaload, 1) := by decide +kernel
theorem dX6_isInnerAlike_83 : decode cX6_isInnerAlike 83 = .ok (.invokestatic 204, 3) := by decide +kernel
theorem dX6_isInnerAlike_86 : decode cX6_isInnerAlike 86 = .ok (.istore 6, 2) := by decide +kernel
theorem dX6_isInnerAlike_88 : decode cX6_isInnerAlike 88 = .ok (.aload_n 0, 1) := by decide +kernel
theorem dX6_isInnerAlike_89 : decode cX6_isInnerAlike 89 = .ok (.getfield 7, 3) := by decide +kernel
theorem dX6_isInnerAlike_92 : decode cX6_isInnerAlike 92 = .ok (.sipush 4620, 3) := by decide +kernel
theorem dX6_isInnerAlike_95 : decode cX6_isInnerAlike 95 = .ok (.iload 5, 2) := by decide +kernel
theorem dX6_isInnerAlike_97 : decode cX6_isInnerAlike 97 = .ok (.iadd, 1) := by decide +kernel
theorem dX6_isInnerAlike_98 : decode cX6_isInnerAlike 98 = .ok (.iaload, 1) := by decide +kernel
theorem dX6_isInnerAlike_99 : decode cX6_isInnerAlike 99 = .ok (.aload_n 0, 1) := by decide +kernel
theorem dX6_isInnerAlike_100 : decode cX6_isInnerAlike 100 = .ok (.getfield 16, 3) := by decide +kernel
theorem dX6_isInnerAlike_103 : decode cX6_isInnerAlike 103 = .ok (.sipush 4620, 3) := by decide +kernel
theorem dX6_isInnerAlike_106 : decode cX6_isInnerAlike 106 = .ok (.iload 6, 2) := by decide +kernel
theorem dX6_isInnerAlike_108 : decode cX6_isInnerAlike 108 = .ok (.iadd, 1) := by decide +kernel
theorem dX6_isInnerAlike_109 : decode cX6_isInnerAlike 109 = .ok (.iaload, 1) := by decide +kernel
theorem dX6_isInnerAlike_110 : decode cX6_isInnerAlike 110 = .ok (.if_icmp .ne 57, 3) := by decide +kernel
theorem dX6_isInnerAlike_113 : decode cX6_isInnerAlike 113 = .ok (.aload_n 0, 1) := by decide +kernel
theorem dX6_isInnerAlike_114 : decode cX6_isInnerAlike 114 = .ok (.getfield 7, 3) := by decide +kernel
theorem dX6_isInnerAlike_117 : decode cX6_isInnerAlike 117 = .ok (.sipush 6156, 3) := by decide +kernel
theorem dX6_isInnerAlike_120 : decode cX6_isInnerAlike 120 = .ok (.iload 5, 2) := by decide +kernel
theorem dX6_isInnerAlike_122 : decode cX6_isInnerAlike 122 = .ok (.iadd, 1) := by decide +kernel
theorem dX6_isInnerAlike_123 : decode cX6_isInnerAlike 123 = .ok (.iaload, 1) := by decide +kernel
theorem dX6_isInnerAlike_124 : decode cX6_isInnerAlike 124 = .ok (.aload_n 0, 1) := by decide +kernel
theorem dX6_isInnerAlike_125 : decode cX6_isInnerAlike 125 = .ok (.getfield 16, 3) := by decide +kernel
theorem dX6_isInnerAlike_128 : decode cX6_isInnerAlike 128 = .ok (.sipush 6156, 3) := by decide +kernel
theorem dX6_isInnerAlike_131 : decode cX6_isInnerAlike 131 = .ok (.iload 6, 2) := by decide +kernel
theorem dX6_isInnerAlike_133 : decode cX6_isInnerAlike 133 = .ok (.iadd, 1) := by decide +kernel
theorem dX6_isInnerAlike_134 : decode cX6_isInnerAlike 134 = .ok (.iaload, 1) := by decide +kernel
theorem dX6_isInnerAlike_135 : decode cX6_isInnerAlike 135 = .ok (.if_icmp .ne 32, 3) := by decide +kernel
theorem dX6_isInnerAlike_138 : decode cX6_isInnerAlike 138 = .ok (.aload_n 0, 1) := by decide +kernel
theorem dX6_isInnerAlike_139 : decode cX6_isInnerAlike 139 = .ok (.getfield 7, 3) := by decide +kernel
theorem dX6_isInnerAlike_142 : decode cX6_isInnerAlike 142 = .ok (.sipush 7692, 3) := by decide +kernel
theorem dX6_isInnerAlike_145 : decode cX6_isInnerAlike 145 = .ok (.iload 5, 2) := by decide +kernel
theorem dX6_isInnerAlike_147 : decode cX6_isInnerAlike 147 = .ok (.iadd, 1) := by decide +kernel
theorem dX6_isInnerAlike_148 : decode cX6_isInnerAlike 148 = .ok (.iaload, 1) := by decide +kernel
theorem dX6_isInnerAlike_149 : decode cX6_isInnerAlike 149 = .ok (.aload_n 0, 1) := by decide +kernel
theorem dX6_isInnerAlike_150 : decode cX6_isInnerAlike 150 = .ok (.getfield 16, 3) := by decide +kernel
theorem dX6_isInnerAlike_153 : decode cX6_isInnerAlike 153 = .ok (.sipush 7692, 3) := by decide +kernel
theorem dX6_isInnerAlike_156 : decode cX6_isInnerAlike 156 = .ok (.iload 6, 2) := by decide +kernel
theorem dX6_isInnerAlike_158 : decode cX6_isInnerAlike 158 = .ok (.iadd, 1) := by decide +kernel
theorem dX6_isInnerAlike_159 : decode cX6_isInnerAlike 159 = .ok (.iaload, 1) := by decide +kernel
theorem dX6_isInnerAlike_160 : decode cX6_isInnerAlike 160 = .ok (.if_icmp .ne 7, 3) := by decide +kernel
theorem dX6_isInnerAlike_163 : decode cX6_isInnerAlike 163 = .ok (.iconst 1, 1) := by decide +kernel
theorem dX6_isInnerAlike_164 : decode cX6_isInnerAlike 164 = .ok (.goto 4, 3) := by decide +kernel
theorem dX6_isInnerAlike_167 : decode cX6_isInnerAlike 167 = .ok (.iconst 0, 1) := by decide +kernel
theorem dX6_isInnerAlike_168 : decode cX6_isInnerAlike 168 = .ok (.istore_n 3, 1) := by decide +kernel
theorem dX6_isInnerAlike_169 : decode cX6_isInnerAlike 169 = .ok (.iinc 4 1, 3) := by decide +kernel
theorem dX6_isInnerAlike_172 : decode cX6_isInnerAlike 172 = .ok (.goto (-144), 3) := by decide +kernel
theorem dX6_isInnerAlike_175 : decode cX6_isInnerAlike 175 = .ok (.iload_n 3, 1) := by decide +kernel
theorem dX6_isInnerAlike_176 : decode cX6_isInnerAlike 176 = .ok (.ireturn, 1) := by decide +kernel
theorem dX6_isChanged_0 : decode cX6_isChanged 0 = .ok (.aload_n 0, 1) := by decide +kernel
theorem dX6_isChanged_1 : decode cX6_isChanged 1 = .ok (.getfield 7, 3) := by decide +kernel
theorem dX6_isChanged_4 : decode cX6_isChanged 4 = .ok (.iconst 0, 1) := by decide +kernel
theorem dX6_isChanged_5 : decode cX6_isChanged 5 = .ok (.iload_n 1, 1) := by decide +kernel
theorem dX6_isChanged_6 : decode cX6_isChanged 6 = .ok (.iadd, 1) := by decide +kernel
theorem dX6_isChanged_7 : decode cX6_isChanged 7 = .ok (.iaload, 1) := by decide +kernel
theorem dX6_isChanged_8 : decode cX6_isChanged 8 = .ok (.ifCond .ne 5, 3) := by decide +kernel
theorem dX6_isChanged_11 : decode cX6_isChanged 11 = .ok (.iconst 0, 1) := by decide +kernel
theorem dX6_isChanged_12 : decode cX6_isChanged 12 = .ok (.ireturn, 1) := by decide +kernel
theorem dX6_isChanged_13 : decode cX6_isChanged 13 = .ok (.iload_n 1, 1) := by decide +kernel
theorem dX6_isChanged_14 : decode cX6_isChanged 14 = .ok (.ifCond .ne 30, 3) := by decide +kernel
theorem dX6_isChanged_17 : decode cX6_isChanged 17 = .ok (.aload_n 0, 1) := by decide +kernel
theorem dX6_isChanged_18 : decode cX6_isChanged 18 = .ok (.iconst 0, 1) := by decide +kernel
theorem dX6_isChanged_19 : decode cX6_isChanged 19 = .ok (.bipush 96, 2) := by decide +kernel
theorem dX6_isChanged_21 : decode cX6_isChanged 21 = .ok (.invokevirtual 198, 3) := by decide +kernel
theorem dX6_isChanged_24 : decode cX6_isChanged 24 = .ok (.ifCond .eq 14, 3) := by decide +kernel
theorem dX6_isChanged_27 : decode cX6_isChanged 27 = .ok (.aload_n 0, 1) := by decide +kernel
theorem dX6_isChanged_28 : decode cX6_isChanged 28 = .ok (.sipush 13076, 3) := by decide +kernel
theorem dX6_isChanged_31 : decode cX6_isChanged 31 = .ok (.iconst 1, 1) := by decide +kernel
theorem dX6_isChanged_32 : decode cX6_isChanged 32 = .ok (.invokevirtual 198, 3) := by decide +kernel
theorem dX6_isChanged_35 : decode cX6_isChanged 35 = .ok (.ifCond .ne 7, 3) := by decide +kernel
theorem dX6_isChanged_38 : decode cX6_isChanged 38 = .ok (.iconst 1, 1) := by decide +kernel
theorem dX6_isChanged_39 : decode cX6_isChanged 39 = .ok (.goto 4, 3) := by decide +kernel
theorem dX6_isChanged_42 : decode cX6_isChanged 42 = .ok (.iconst 0, 1) := by decide +kernel
theorem dX6_isChanged_43 : decode cX6_isChanged 43 = .ok (.ireturn, 1) := by decide +kernel
theorem dX6_isChanged_44 : decode cX6_isChanged 44 = .ok (.aload_n 0, 1) := by decide +kernel
theorem dX6_isChanged_45 : decode cX6_isChanged 45 = .ok (.getfield 16, 3) := by decide +kernel
theorem dX6_isChanged_48 : decode cX6_isChanged 48 = .ok (.iconst 0, 1) := by decide +kernel
theorem dX6_isChanged_49 : decode cX6_isChanged 49 = .ok (.iload_n 1, 1) := by decide +kernel
theorem dX6_isChanged_50 : decode cX6_isChanged 50 = .ok (.iadd, 1) := by decide +kernel
theorem dX6_isChanged_51 : decode cX6_isChanged 51 = .ok (.iaload, 1) := by decide +kernel
theorem dX6_isChanged_52 : decode cX6_isChanged 52 = .ok (.ifCond .eq 16, 3) := by decide +kernel
theorem dX6_isChanged_55 : decode cX6_isChanged 55 = .ok (.aload_n 0, 1) := by decide +kernel
theorem dX6_isChanged_56 : decode cX6_isChanged 56 = .ok (.sipush 3756, 3) := by decide +kernel
theorem dX6_isChanged_59 : decode cX6_isChanged 59 = .ok (.iload_n 1, 1) := by decide +kernel
theorem dX6_isChanged_60 : decode cX6_isChanged 60 = .ok (.iadd, 1) := by decide +kernel
theorem dX6_isChanged_61 : decode cX6_isChanged 61 = .ok (.iconst 1, 1) := by decide +kernel
theorem dX6_isChanged_62 : decode cX6_isChanged 62 = .ok (.invokevirtual 198, 3) := by decide +kernel
theorem dX6_isChanged_65 : decode cX6_isChanged 65 = .ok (.ifCond .ne 5, 3) := by decide +kernel
theorem dX6_isChanged_68 : decode cX6_isChanged 68 = .ok (.iconst 1, 1) := by decide +kernel
theorem dX6_isChanged_69 : decode cX6_isChanged 69 = .ok (.ireturn, 1) := by decide +kernel
theorem dX6_isChanged_70 : decode cX6_isChanged 70 = .ok (.aload_n 0, 1) := by decide +kernel
theorem dX6_isChanged_71 : decode cX6_isChanged 71 = .ok (.getfield 7, 3) := by decide +kernel
theorem dX6_isChanged_74 : decode cX6_isChanged 74 = .ok (.sipush 3756, 3) := by decide +kernel
theorem dX6_isChanged_77 : decode cX6_isChanged 77 = .ok (.iload_n 1, 1) := by decide +kernel
theorem dX6_isChanged_78 : decode cX6_isChanged 78 = .ok (.iadd, 1) := by decide +kernel
theorem dX6_isChanged_79 : decode cX6_isChanged 79 = .ok (.iaload, 1) := by decide +kernel
theorem dX6_isChanged_80 : decode cX6_isChanged 80 = .ok (.ifCond .ne 28, 3) := by decide +kernel
theorem dX6_isChanged_83 : decode cX6_isChanged 83 = .ok (.aload_n 0, 1) := by decide +kernel
theorem dX6_isChanged_84 : decode cX6_isChanged 84 = .ok (.sipush 13078, 3) := by decide +kernel
theorem dX6_isChanged_87 : decode cX6_isChanged 87 = .ok (.sipush 128, 3) := by decide +kernel
theorem dX6_isChanged_90 : decode cX6_isChanged 90 = .ok (.iload_n 1, 1) := by decide +kernel
theorem dX6_isChanged_91 : decode cX6_isChanged 91 = .ok (.imul, 1) := by decide +kernel
theorem dX6_isChanged_92 : decode cX6_isChanged 92 = .ok (.iadd, 1) := by decide +kernel
theorem dX6_isChanged_93 : decode cX6_isChanged 93 = .ok (.sipush 128, 3) := by decide +kernel
theorem dX6_isChanged_96 : decode cX6_isChanged 96 = .ok (.invokevirtual 198, 3) := by decide +kernel
theorem dX6_isChanged_99 : decode cX6_isChanged 99 = .ok (.ifCond .ne 7, 3) := by decide +kernel
theorem dX6_isChanged_102 : decode cX6_isChanged 102 = .ok (.iconst 1, 1) := by decide +kernel
theorem dX6_isChanged_103 : decode cX6_isChanged 103 = .ok (.goto 4, 3) := by decide +kernel
theorem dX6_isChanged_106 : decode cX6_isChanged 106 = .ok (.iconst 0, 1) := by decide +kernel
theorem dX6_isChanged_107 : decode cX6_isChanged 107 = .ok (.ireturn, 1) := by decide +kernel
theorem dX6_isChanged_108 : decode cX6_isChanged 108 = .ok (.aload_n 0, 1) := by decide +kernel
theorem dX6_isChanged_109 : decode cX6_isChanged 109 = .ok (.sipush 3852, 3) := by decide +kernel
theorem dX6_isChanged_112 : decode cX6_isChanged 112 = .ok (.iload_n 1, 1) := by decide +kernel
theorem dX6_isChanged_113 : decode cX6_isChanged 113 = .ok (.iadd, 1) := by decide +kernel
theorem dX6_isChanged_114 : decode cX6_isChanged 114 = .ok (.iconst 1, 1) := by decide +kernel
theorem dX6_isChanged_115 : decode cX6_isChanged 115 = .ok (.invokevirtual 198, 3) := by decide +kernel
theorem dX6_isChanged_118 : decode cX6_isChanged 118 = .ok (.ifCond .eq 36, 3) := by decide +kernel
theorem dX6_isChanged_121 : decode cX6_isChanged 121 = .ok (.aload_n 0, 1) := by decide +kernel
theorem dX6_isChanged_122 : decode cX6_isChanged 122 = .ok (.getfield 7, 3) := by decide +kernel
theorem dX6_isChanged_125 : decode cX6_isChanged 125 = .ok (.sipush 3756, 3) := by decide +kernel
theorem dX6_isChanged_128 : decode cX6_isChanged 128 = .ok (.iload_n 1, 1) := by decide +kernel
theorem dX6_isChanged_129 : decode cX6_isChanged 129 = .ok (.iadd, 1) := by decide +kernel
theorem dX6_isChanged_130 : decode cX6_isChanged 130 = .ok (.iaload, 1) := by decide +kernel
theorem dX6_isChanged_131 : decode cX6_isChanged 131 = .ok (.iconst 1, 1) := by decide +kernel
theorem dX6_isChanged_132 : decode cX6_isChanged 132 = .ok (.if_icmp .ne 14, 3) := by decide +kernel
theorem dX6_isChanged_135 : decode cX6_isChanged 135 = .ok (.aload_n 0, 1) := by decide +kernel
theorem dX6_isChanged_136 : decode cX6_isChanged 136 = .ok (.iload_n 1, 1) := by decide +kernel
theorem dX6_isChanged_137 : decode cX6_isChanged 137 = .ok (.invokevirtual 208, 3) := by decide +kernel
theorem dX6_isChanged_140 : decode cX6_isChanged 140 = .ok (.ifCond .eq 14, 3) := by decide +kernel
theorem dX6_isChanged_143 : decode cX6_isChanged 143 = .ok (.goto 15, 3) := by decide +kernel
theorem dX6_isChanged_146 : decode cX6_isChanged 146 = .ok (.aload_n 0, 1) := by decide +kernel
theorem dX6_isChanged_147 : decode cX6_isChanged 147 = .ok (.iload_n 1, 1) := by decide +kernel
theorem dX6_isChanged_148 : decode cX6_isChanged 148 = .ok (.invokevirtual 211, 3) := by decide +kernel
theorem dX6_isChanged_151 : decode cX6_isChanged 151 = .ok (.ifCond .ne 7, 3) := by decide +kernel
theorem dX6_isChanged_154 : decode cX6_isChanged 154 = .ok (.iconst 1, 1) := by decide +kernel
theorem dX6_isChanged_155 : decode cX6_isChanged 155 = .ok (.goto 4, 3) := by decide +kernel
theorem dX6_isChanged_158 : decode cX6_isChanged 158 = .ok (.iconst 0, 1) := by decide +kernel
theorem dX6_isChanged_159 : decode cX6_isChanged 159 = .ok (.ireturn, 1) := by decide +kernel
theorem dX6_changed_0 : decode cX6_changed 0 = .ok (.iconst 0, 1) := by decide +kernel
theorem dX6_changed_1 : decode cX6_changed 1 = .ok (.istore_n 1, 1) := by decide +kernel
theorem dX6_changed_2 : decode cX6_changed 2 = .ok (.iconst 0, 1) := by decide +kernel
theorem dX6_changed_3 : decode cX6_changed 3 = .ok (.istore_n 2, 1) := by decide +kernel
theorem dX6_changed_4 : decode cX6_changed 4 = .ok (.iload_n 2, 1) := by decide +kernel
theorem dX6_changed_5 : decode cX6_changed 5 = .ok (.aload_n 0, 1) := by decide +kernel
theorem dX6_changed_6 : decode cX6_changed 6 = .ok (.getfield 30, 3) := by decide +kernel
theorem dX6_changed_9 : decode cX6_changed 9 = .ok (.if_icmp .ge 25, 3) := by decide +kernel
theorem dX6_changed_12 : decode cX6_changed 12 = .ok (.iload_n 1, 1) := by decide +kernel
theorem dX6_changed_13 : decode cX6_changed 13 = .ok (.aload_n 0, 1) := by decide +kernel
theorem dX6_changed_14 : decode cX6_changed 14 = .ok (.iload_n 2, 1) := by decide +kernel
theorem dX6_changed_15 : decode cX6_changed 15 = .ok (.invokevirtual 214, 3) := by decide +kernel
theorem dX6_changed_18 : decode cX6_changed 18 = .ok (.ifCond .eq 7, 3) := by decide +kernel
theorem dX6_changed_21 : decode cX6_changed 21 = .ok (.iconst 1, 1) := by decide +kernel
theorem dX6_changed_22 : decode cX6_changed 22 = .ok (.goto 4, 3) := by decide +kernel
theorem dX6_changed_25 : decode cX6_changed 25 = .ok (.iconst 0, 1) := by decide +kernel
theorem dX6_changed_26 : decode cX6_changed 26 = .ok (.iadd, 1) := by decide +kernel
theorem dX6_changed_27 : decode cX6_changed 27 = .ok (.istore_n 1, 1) := by decide +kernel
theorem dX6_changed_28 : decode cX6_changed 28 = .ok (.iinc 2 1, 3) := by decide +kernel
theorem dX6_changed_31 : decode cX6_changed 31 = .ok (.goto (-27), 3) := by decide +kernel
theorem dX6_changed_34 : decode cX6_changed 34 = .ok (.iload_n 1, 1) := by decide +kernel
theorem dX6_changed_35 : decode cX6_changed 35 = .ok (.ireturn, 1) := by decide +kernel
theorem dX6_goes_0 : decode cX6_goes 0 = .ok (.aload_n 0, 1) := by decide +kernel
theorem dX6_goes_1 : decode cX6_goes 1 = .ok (.getfield 26, 3) := by decide +kernel
theorem dX6_goes_4 : decode cX6_goes 4 = .ok (.ifCond .ne 15, 3) := by decide +kernel
theorem dX6_goes_7 : decode cX6_goes 7 = .ok (.aload_n 0, 1) := by decide +kernel
theorem dX6_goes_8 : decode cX6_goes 8 = .ok (.iconst 1, 1) := by decide +kernel
theorem dX6_goes_9 : decode cX6_goes 9 = .ok (.putfield 149, 3) := by decide +kernel
theorem dX6_goes_12 : decode cX6_goes 12 = .ok (.aload_n 0, 1) := by decide +kernel
theorem dX6_goes_13 : decode cX6_goes 13 = .ok (.iconst (-1), 1) := by decide +kernel
theorem dX6_goes_14 : decode cX6_goes 14 = .ok (.putfield 26, 3) := by decide +kernel
theorem dX6_goes_17 : decode cX6_goes 17 = .ok (.iconst 0, 1) := by decide +kernel
theorem dX6_goes_18 : decode cX6_goes 18 = .ok (.ireturn, 1) := by decide +kernel
theorem dX6_goes_19 : decode cX6_goes 19 = .ok (.aload_n 0, 1) := by decide +kernel
theorem dX6_goes_20 : decode cX6_goes 20 = .ok (.dup, 1) := by decide +kernel
theorem dX6_goes_21 : decode cX6_goes 21 = .ok (.getfield 26, 3) := by decide +kernel
theorem dX6_goes_24 : decode cX6_goes 24 = .ok (.aload_n 0, 1) := by decide +kernel
theorem dX6_goes_25 : decode cX6_goes 25 = .ok (.getfield 26, 3) := by decide +kernel
theorem dX6_goes_28 : decode cX6_goes 28 = .ok (.ifCond .le 7, 3) := by decide +kernel
theorem dX6_goes_31 : decode cX6_goes 31 = .ok (.iconst 1, 1) := by decide +kernel
theorem dX6_goes_32 : decode cX6_goes 32 = .ok (.goto 4, 3) := by decide +kernel
theorem dX6_goes_35 : decode cX6_goes 35 = .ok (.iconst 0, 1) := by decide +kernel
theorem dX6_goes_36 : decode cX6_goes 36 = .ok (.isub, 1) := by decide +kernel
theorem dX6_goes_37 : decode cX6_goes 37 = .ok (.putfield 26, 3) := by decide +kernel
theorem dX6_goes_40 : decode cX6_goes 40 = .ok (.aload_n 0, 1) := by decide +kernel
theorem dX6_goes_41 : decode cX6_goes 41 = .ok (.dup, 1) := by decide +kernel
theorem dX6_goes_42 : decode cX6_goes 42 = .ok (.getfield 217, 3) := by decide +kernel
theorem dX6_goes_45 : decode cX6_goes 45 = .ok (.iconst 1, 1) := by decide +kernel
theorem dX6_goes_46 : decode cX6_goes 46 = .ok (.iadd, 1) := by decide +kernel
theorem dX6_goes_47 : decode cX6_goes 47 = .ok (.putfield 217, 3) := by decide +kernel
theorem dX6_goes_50 : decode cX6_goes 50 = .ok (.aload_n 0, 1) := by decide +kernel
theorem dX6_goes_51 : decode cX6_goes 51 = .ok (.dup, 1) := by decide +kernel
theorem dX6_goes_52 : decode cX6_goes 52 = .ok (.getfield 220, 3) := by decide +kernel
theorem dX6_goes_55 : decode cX6_goes 55 = .ok (.iconst 1, 1) := by decide +kernel
theorem dX6_goes_56 : decode cX6_goes 56 = .ok (.iadd, 1) := by decide +kernel
theorem dX6_goes_57 : decode cX6_goes 57 = .ok (.putfield 220, 3) := by decide +kernel
theorem dX6_goes_60 : decode cX6_goes 60 = .ok (.iconst 1, 1) := by decide +kernel
theorem dX6_goes_61 : decode cX6_goes 61 = .ok (.ireturn, 1) := by decide +kernel
theorem dX6_home_0 : decode cX6_home 0 = .ok (.aload_n 0, 1) := by decide +kernel
theorem dX6_home_1 : decode cX6_home 1 = .ok (.getfield 223, 3) := by decide +kernel
theorem dX6_home_4 : decode cX6_home 4 = .ok (.ifCond .ne 5, 3) := by decide +kernel
theorem dX6_home_7 : decode cX6_home 7 = .ok (.iconst 1, 1) := by decide +kernel
theorem dX6_home_8 : decode cX6_home 8 = .ok (.ireturn, 1) := by decide +kernel
theorem dX6_home_9 : decode cX6_home 9 = .ok (.iconst 0, 1) := by decide +kernel
theorem dX6_home_10 : decode cX6_home 10 = .ok (.istore_n 1, 1) := by decide +kernel
theorem dX6_home_11 : decode cX6_home 11 = .ok (.iload_n 1, 1) := by decide +kernel
theorem dX6_home_12 : decode cX6_home 12 = .ok (.bipush 96, 2) := by decide +kernel
theorem dX6_home_14 : decode cX6_home 14 = .ok (.if_icmp .ge 27, 3) := by decide +kernel
theorem dX6_home_17 : decode cX6_home 17 = .ok (.aload_n 0, 1) := by decide +kernel
theorem dX6_home_18 : decode cX6_home 18 = .ok (.getfield 22, 3) := by decide +kernel
theorem dX6_home_21 : decode cX6_home 21 = .ok (.iload_n 1, 1) := by decide +kernel
theorem dX6_home_22 : decode cX6_home 22 = .ok (.baload, 1) := by decide +kernel
theorem dX6_home_23 : decode cX6_home 23 = .ok (.ifCond .eq 12, 3) := by decide +kernel
theorem dX6_home_26 : decode cX6_home 26 = .ok (.aload_n 0, 1) := by decide +kernel
theorem dX6_home_27 : decode cX6_home 27 = .ok (.invokevirtual 226, 3) := by decide +kernel
theorem dX6_home_30 : decode cX6_home 30 = .ok (.ifCond .ne 5, 3) := by decide +kernel
theorem dX6_home_33 : decode cX6_home 33 = .ok (.iconst 0, 1) := by decide +kernel
theorem dX6_home_34 : decode cX6_home 34 = .ok (.ireturn, 1) := by decide +kernel
theorem dX6_home_35 : decode cX6_home 35 = .ok (.iinc 1 1, 3) := by decide +kernel
theorem dX6_home_38 : decode cX6_home 38 = .ok (.goto (-27), 3) := by decide +kernel
theorem dX6_home_41 : decode cX6_home 41 = .ok (.aload_n 0, 1) := by decide +kernel
theorem dX6_home_42 : decode cX6_home 42 = .ok (.invokevirtual 226, 3) := by decide +kernel
theorem dX6_home_45 : decode cX6_home 45 = .ok (.ifCond .ne 5, 3) := by decide +kernel
theorem dX6_home_48 : decode cX6_home 48 = .ok (.iconst 0, 1) := by decide +kernel
theorem dX6_home_49 : decode cX6_home 49 = .ok (.ireturn, 1) := by decide +kernel
theorem dX6_home_50 : decode cX6_home 50 = .ok (.iconst 0, 1) := by decide +kernel
theorem dX6_home_51 : decode cX6_home 51 = .ok (.istore_n 1, 1) := by decide +kernel
theorem dX6_home_52 : decode cX6_home 52 = .ok (.iload_n 1, 1) := by decide +kernel
theorem dX6_home_53 : decode cX6_home 53 = .ok (.bipush 96, 2) := by decide +kernel
theorem dX6_home_55 : decode cX6_home 55 = .ok (.if_icmp .ge 16, 3) := by decide +kernel
theorem dX6_home_58 : decode cX6_home 58 = .ok (.aload_n 0, 1) := by decide +kernel
theorem dX6_home_59 : decode cX6_home 59 = .ok (.getfield 22, 3) := by decide +kernel
theorem dX6_home_62 : decode cX6_home 62 = .ok (.iload_n 1, 1) := by decide +kernel
theorem dX6_home_63 : decode cX6_home 63 = .ok (.iconst 0, 1) := by decide +kernel
theorem dX6_home_64 : decode cX6_home 64 = .ok (.bastore, 1) := by decide +kernel
theorem dX6_home_65 : decode cX6_home 65 = .ok (.iinc 1 1, 3) := by decide +kernel
theorem dX6_home_68 : decode cX6_home 68 = .ok (.goto (-16), 3) := by decide +kernel
theorem dX6_home_71 : decode cX6_home 71 = .ok (.aload_n 0, 1) := by decide +kernel
theorem dX6_home_72 : decode cX6_home 72 = .ok (.iconst 0, 1) := by decide +kernel
theorem dX6_home_73 : decode cX6_home 73 = .ok (.putfield 223, 3) := by decide +kernel
theorem dX6_home_76 : decode cX6_home 76 = .ok (.iconst 1, 1) := by decide +kernel
theorem dX6_home_77 : decode cX6_home 77 = .ok (.ireturn, 1) := by decide +kernel
theorem dX6_commit_0 : decode cX6_commit 0 = .ok (.aload_n 0, 1) := by decide +kernel
theorem dX6_commit_1 : decode cX6_commit 1 = .ok (.getfield 149, 3) := by decide +kernel
theorem dX6_commit_4 : decode cX6_commit 4 = .ok (.ifCond .eq 7, 3) := by decide +kernel
theorem dX6_commit_7 : decode cX6_commit 7 = .ok (.iconst 0, 1) := by decide +kernel
theorem dX6_commit_8 : decode cX6_commit 8 = .ok (.goto 7, 3) := by decide +kernel
theorem dX6_commit_11 : decode cX6_commit 11 = .ok (.aload_n 0, 1) := by decide +kernel
theorem dX6_commit_12 : decode cX6_commit 12 = .ok (.invokevirtual 230, 3) := by decide +kernel
theorem dX6_commit_15 : decode cX6_commit 15 = .ok (.istore_n 1, 1) := by decide +kernel
theorem dX6_commit_16 : decode cX6_commit 16 = .ok (.aload_n 0, 1) := by decide +kernel
theorem dX6_commit_17 : decode cX6_commit 17 = .ok (.aload_n 0, 1) := by decide +kernel
theorem dX6_commit_18 : decode cX6_commit 18 = .ok (.getfield 149, 3) := by decide +kernel
theorem dX6_commit_21 : decode cX6_commit 21 = .ok (.ifCond .eq 7, 3) := by decide +kernel
theorem dX6_commit_24 : decode cX6_commit 24 = .ok (.iconst 1, 1) := by decide +kernel
theorem dX6_commit_25 : decode cX6_commit 25 = .ok (.goto 22, 3) := by decide +kernel
theorem dX6_commit_28 : decode cX6_commit 28 = .ok (.iload_n 1, 1) := by decide +kernel
theorem dX6_commit_29 : decode cX6_commit 29 = .ok (.ifCond .le 17, 3) := by decide +kernel
theorem dX6_commit_32 : decode cX6_commit 32 = .ok (.iload_n 1, 1) := by decide +kernel
theorem dX6_commit_33 : decode cX6_commit 33 = .ok (.iconst 2, 1) := by decide +kernel
theorem dX6_commit_34 : decode cX6_commit 34 = .ok (.iadd, 1) := by decide +kernel
theorem dX6_commit_35 : decode cX6_commit 35 = .ok (.aload_n 0, 1) := by decide +kernel
theorem dX6_commit_36 : decode cX6_commit 36 = .ok (.getfield 33, 3) := by decide +kernel
theorem dX6_commit_39 : decode cX6_commit 39 = .ok (.if_icmp .le 7, 3) := by decide +kernel
theorem dX6_commit_42 : decode cX6_commit 42 = .ok (.iconst 2, 1) := by decide +kernel
theorem dX6_commit_43 : decode cX6_commit 43 = .ok (.goto 4, 3) := by decide +kernel
theorem dX6_commit_46 : decode cX6_commit 46 = .ok (.iconst 0, 1) := by decide +kernel
theorem dX6_commit_47 : decode cX6_commit 47 = .ok (.putfield 40, 3) := by decide +kernel
theorem dX6_commit_50 : decode cX6_commit 50 = .ok (.aload_n 0, 1) := by decide +kernel
theorem dX6_commit_51 : decode cX6_commit 51 = .ok (.getfield 40, 3) := by decide +kernel
theorem dX6_commit_54 : decode cX6_commit 54 = .ok (.ifCond .gt 7, 3) := by decide +kernel
theorem dX6_commit_57 : decode cX6_commit 57 = .ok (.iload_n 1, 1) := by decide +kernel
theorem dX6_commit_58 : decode cX6_commit 58 = .ok (.ifCond .ne 5, 3) := by decide +kernel
theorem dX6_commit_61 : decode cX6_commit 61 = .ok (.iconst 0, 1) := by decide +kernel
theorem dX6_commit_62 : decode cX6_commit 62 = .ok (.ireturn, 1) := by decide +kernel
theorem dX6_commit_63 : decode cX6_commit 63 = .ok (.aload_n 0, 1) := by decide +kernel
theorem dX6_commit_64 : decode cX6_commit 64 = .ok (.iconst 0, 1) := by decide +kernel
theorem dX6_commit_65 : decode cX6_commit 65 = .ok (.putfield 217, 3) := by decide +kernel
theorem dX6_commit_68 : decode cX6_commit 68 = .ok (.aload_n 0, 1) := by decide +kernel
theorem dX6_commit_69 : decode cX6_commit 69 = .ok (.getfield 223, 3) := by decide +kernel
theorem dX6_commit_72 : decode cX6_commit 72 = .ok (.iload_n 1, 1) := by decide +kernel
theorem dX6_commit_73 : decode cX6_commit 73 = .ok (.iadd, 1) := by decide +kernel
theorem dX6_commit_74 : decode cX6_commit 74 = .ok (.iconst 2, 1) := by decide +kernel
theorem dX6_commit_75 : decode cX6_commit 75 = .ok (.iadd, 1) := by decide +kernel
theorem dX6_commit_76 : decode cX6_commit 76 = .ok (.aload_n 0, 1) := by decide +kernel
theorem dX6_commit_77 : decode cX6_commit 77 = .ok (.getfield 33, 3) := by decide +kernel
theorem dX6_commit_80 : decode cX6_commit 80 = .ok (.if_icmp .le 15, 3) := by decide +kernel
theorem dX6_commit_83 : decode cX6_commit 83 = .ok (.aload_n 0, 1) := by decide +kernel
theorem dX6_commit_84 : decode cX6_commit 84 = .ok (.invokevirtual 233, 3) := by decide +kernel
theorem dX6_commit_87 : decode cX6_commit 87 = .ok (.ifCond .ne 8, 3) := by decide +kernel
theorem dX6_commit_90 : decode cX6_commit 90 = .ok (.aload_n 0, 1) := by decide +kernel
theorem dX6_commit_91 : decode cX6_commit 91 = .ok (.getfield 217, 3) := by decide +kernel
theorem dX6_commit_94 : decode cX6_commit 94 = .ok (.ireturn, 1) := by decide +kernel
theorem dX6_commit_95 : decode cX6_commit 95 = .ok (.iconst 0, 1) := by decide +kernel
theorem dX6_commit_96 : decode cX6_commit 96 = .ok (.istore_n 2, 1) := by decide +kernel
theorem dX6_commit_97 : decode cX6_commit 97 = .ok (.iload_n 2, 1) := by decide +kernel
theorem dX6_commit_98 : decode cX6_commit 98 = .ok (.iload_n 1, 1) := by decide +kernel
theorem dX6_commit_99 : decode cX6_commit 99 = .ok (.iconst 2, 1) := by decide +kernel
theorem dX6_commit_100 : decode cX6_commit 100 = .ok (.iadd, 1) := by decide +kernel
theorem dX6_commit_101 : decode cX6_commit 101 = .ok (.if_icmp .ge 21, 3) := by decide +kernel
theorem dX6_commit_104 : decode cX6_commit 104 = .ok (.aload_n 0, 1) := by decide +kernel
theorem dX6_commit_105 : decode cX6_commit 105 = .ok (.invokevirtual 226, 3) := by decide +kernel
theorem dX6_commit_108 : decode cX6_commit 108 = .ok (.ifCond .ne 8, 3) := by decide +kernel
theorem dX6_commit_111 : decode cX6_commit 111 = .ok (.aload_n 0, 1) := by decide +kernel
theorem dX6_commit_112 : decode cX6_commit 112 = .ok (.getfield 217, 3) := by decide +kernel
theorem dX6_commit_115 : decode cX6_commit 115 = .ok (.ireturn, 1) := by decide +kernel
theorem dX6_commit_116 : decode cX6_commit 116 = .ok (.iinc 2 1, 3) := by decide +kernel
theorem dX6_commit_119 : decode cX6_commit 119 = .ok (.goto (-22), 3) := by decide +kernel
theorem dX6_commit_122 : decode cX6_commit 122 = .ok (.iconst 0, 1) := by decide +kernel
theorem dX6_commit_123 : decode cX6_commit 123 = .ok (.istore_n 2, 1) := by decide +kernel
theorem dX6_commit_124 : decode cX6_commit 124 = .ok (.iload_n 2, 1) := by decide +kernel
theorem dX6_commit_125 : decode cX6_commit 125 = .ok (.aload_n 0, 1) := by decide +kernel
theorem dX6_commit_126 : decode cX6_commit 126 = .ok (.getfield 30, 3) := by decide +kernel
theorem dX6_commit_129 : decode cX6_commit 129 = .ok (.if_icmp .ge 37, 3) := by decide +kernel
theorem dX6_commit_132 : decode cX6_commit 132 = .ok (.aload_n 0, 1) := by decide +kernel
theorem dX6_commit_133 : decode cX6_commit 133 = .ok (.getfield 22, 3) := by decide +kernel
theorem dX6_commit_136 : decode cX6_commit 136 = .ok (.iload_n 2, 1) := by decide +kernel
theorem dX6_commit_137 : decode cX6_commit 137 = .ok (.aload_n 0, 1) := by decide +kernel
theorem dX6_commit_138 : decode cX6_commit 138 = .ok (.getfield 22, 3) := by decide +kernel
theorem dX6_commit_141 : decode cX6_commit 141 = .ok (.iload_n 2, 1) := by decide +kernel
theorem dX6_commit_142 : decode cX6_commit 142 = .ok (.baload, 1) := by decide +kernel
theorem dX6_commit_143 : decode cX6_commit 143 = .ok (.ifCond .ne 11, 3) := by decide +kernel
theorem dX6_commit_146 : decode cX6_commit 146 = .ok (.aload_n 0, 1) := by decide +kernel
theorem dX6_commit_147 : decode cX6_commit 147 = .ok (.iload_n 2, 1) := by decide +kernel
theorem dX6_commit_148 : decode cX6_commit 148 = .ok (.invokevirtual 214, 3) := by decide +kernel
theorem dX6_commit_151 : decode cX6_commit 151 = .ok (.ifCond .eq 7, 3) := by decide +kernel
theorem dX6_commit_154 : decode cX6_commit 154 = .ok (.iconst 1, 1) := by decide +kernel
theorem dX6_commit_155 : decode cX6_commit 155 = .ok (.goto 4, 3) := by decide +kernel
theorem dX6_commit_158 : decode cX6_commit 158 = .ok (.iconst 0, 1) := by decide +kernel
theorem dX6_commit_159 : decode cX6_commit 159 = .ok (.bastore, 1) := by decide +kernel
theorem dX6_commit_160 : decode cX6_commit 160 = .ok (.iinc 2 1, 3) := by decide +kernel
theorem dX6_commit_163 : decode cX6_commit 163 = .ok (.goto (-39), 3) := by decide +kernel
theorem dX6_commit_166 : decode cX6_commit 166 = .ok (.aload_n 0, 1) := by decide +kernel
theorem dX6_commit_167 : decode cX6_commit 167 = .ok (.dup, 1) := by decide +kernel
theorem dX6_commit_168 : decode cX6_commit 168 = .ok (.getfield 223, 3) := by decide +kernel
theorem dX6_commit_171 : decode cX6_commit 171 = .ok (.iload_n 1, 1) := by decide +kernel
theorem dX6_commit_172 : decode cX6_commit 172 = .ok (.iconst 2, 1) := by decide +kernel
theorem dX6_commit_173 : decode cX6_commit 173 = .ok (.iadd, 1) := by decide +kernel
theorem dX6_commit_174 : decode cX6_commit 174 = .ok (.iadd, 1) := by decide +kernel
theorem dX6_commit_175 : decode cX6_commit 175 = .ok (.putfield 223, 3) := by decide +kernel
theorem dX6_commit_178 : decode cX6_commit 178 = .ok (.aload_n 0, 1) := by decide +kernel
theorem dX6_commit_179 : decode cX6_commit 179 = .ok (.dup, 1) := by decide +kernel
theorem dX6_commit_180 : decode cX6_commit 180 = .ok (.getfield 236, 3) := by decide +kernel
theorem dX6_commit_183 : decode cX6_commit 183 = .ok (.iconst 1, 1) := by decide +kernel
theorem dX6_commit_184 : decode cX6_commit 184 = .ok (.iadd, 1) := by decide +kernel
theorem dX6_commit_185 : decode cX6_commit 185 = .ok (.putfield 236, 3) := by decide +kernel
theorem dX6_commit_188 : decode cX6_commit 188 = .ok (.aload_n 0, 1) := by decide +kernel
theorem dX6_commit_189 : decode cX6_commit 189 = .ok (.getfield 7, 3) := by decide +kernel
theorem dX6_commit_192 : decode cX6_commit 192 = .ok (.aload_n 0, 1) := by decide +kernel
theorem dX6_commit_193 : decode cX6_commit 193 = .ok (.getfield 16, 3) := by decide +kernel
theorem dX6_commit_196 : decode cX6_commit 196 = .ok (.invokestatic 36, 3) := by decide +kernel
theorem dX6_commit_199 : decode cX6_commit 199 = .ok (.aload_n 0, 1) := by decide +kernel
theorem dX6_commit_200 : decode cX6_commit 200 = .ok (.getfield 217, 3) := by decide +kernel
theorem dX6_commit_203 : decode cX6_commit 203 = .ok (.ireturn, 1) := by decide +kernel
theorem dX6_checkpoint_0 : decode cX6_checkpoint 0 = .ok (.aload_n 0, 1) := by decide +kernel
theorem dX6_checkpoint_1 : decode cX6_checkpoint 1 = .ok (.aload_n 0, 1) := by decide +kernel
theorem dX6_checkpoint_2 : decode cX6_checkpoint 2 = .ok (.getfield 149, 3) := by decide +kernel
theorem dX6_checkpoint_5 : decode cX6_checkpoint 5 = .ok (.ifCond .eq 7, 3) := by decide +kernel
theorem dX6_checkpoint_8 : decode cX6_checkpoint 8 = .ok (.iconst 1, 1) := by decide +kernel
theorem dX6_checkpoint_9 : decode cX6_checkpoint 9 = .ok (.goto 4, 3) := by decide +kernel
theorem dX6_checkpoint_12 : decode cX6_checkpoint 12 = .ok (.iconst 0, 1) := by decide +kernel
theorem dX6_checkpoint_13 : decode cX6_checkpoint 13 = .ok (.putfield 40, 3) := by decide +kernel
theorem dX6_checkpoint_16 : decode cX6_checkpoint 16 = .ok (.aload_n 0, 1) := by decide +kernel
theorem dX6_checkpoint_17 : decode cX6_checkpoint 17 = .ok (.getfield 40, 3) := by decide +kernel
theorem dX6_checkpoint_20 : decode cX6_checkpoint 20 = .ok (.ifCond .le 5, 3) := by decide +kernel
theorem dX6_checkpoint_23 : decode cX6_checkpoint 23 = .ok (.iconst 0, 1) := by decide +kernel
theorem dX6_checkpoint_24 : decode cX6_checkpoint 24 = .ok (.ireturn, 1) := by decide +kernel
theorem dX6_checkpoint_25 : decode cX6_checkpoint 25 = .ok (.aload_n 0, 1) := by decide +kernel
theorem dX6_checkpoint_26 : decode cX6_checkpoint 26 = .ok (.iconst 0, 1) := by decide +kernel
theorem dX6_checkpoint_27 : decode cX6_checkpoint 27 = .ok (.putfield 217, 3) := by decide +kernel
theorem dX6_checkpoint_30 : decode cX6_checkpoint 30 = .ok (.aload_n 0, 1) := by decide +kernel
theorem dX6_checkpoint_31 : decode cX6_checkpoint 31 = .ok (.invokevirtual 233, 3) := by decide +kernel
theorem dX6_checkpoint_34 : decode cX6_checkpoint 34 = .ok (.istore_n 1, 1) := by decide +kernel
theorem dX6_checkpoint_35 : decode cX6_checkpoint 35 = .ok (.aload_n 0, 1) := by decide +kernel
theorem dX6_checkpoint_36 : decode cX6_checkpoint 36 = .ok (.getfield 217, 3) := by decide +kernel
theorem dX6_checkpoint_39 : decode cX6_checkpoint 39 = .ok (.ireturn, 1) := by decide +kernel
theorem dX6_back_0 : decode cX6_back 0 = .ok (.aload_n 0, 1) := by decide +kernel
theorem dX6_back_1 : decode cX6_back 1 = .ok (.aload_n 0, 1) := by decide +kernel
theorem dX6_back_2 : decode cX6_back 2 = .ok (.getfield 149, 3) := by decide +kernel
theorem dX6_back_5 : decode cX6_back 5 = .ok (.ifCond .eq 7, 3) := by decide +kernel
theorem dX6_back_8 : decode cX6_back 8 = .ok (.iconst 1, 1) := by decide +kernel
theorem dX6_back_9 : decode cX6_back 9 = .ok (.goto 4, 3) := by decide +kernel
theorem dX6_back_12 : decode cX6_back 12 = .ok (.iconst 0, 1) := by decide +kernel
theorem dX6_back_13 : decode cX6_back 13 = .ok (.putfield 40, 3) := by decide +kernel
theorem dX6_back_16 : decode cX6_back 16 = .ok (.aload_n 0, 1) := by decide +kernel
theorem dX6_back_17 : decode cX6_back 17 = .ok (.getfield 40, 3) := by decide +kernel
theorem dX6_back_20 : decode cX6_back 20 = .ok (.ifCond .le 5, 3) := by decide +kernel
theorem dX6_back_23 : decode cX6_back 23 = .ok (.iconst 0, 1) := by decide +kernel
theorem dX6_back_24 : decode cX6_back 24 = .ok (.ireturn, 1) := by decide +kernel
theorem dX6_back_25 : decode cX6_back 25 = .ok (.aload_n 0, 1) := by decide +kernel
theorem dX6_back_26 : decode cX6_back 26 = .ok (.invokevirtual 230, 3) := by decide +kernel
theorem dX6_back_29 : decode cX6_back 29 = .ok (.istore_n 1, 1) := by decide +kernel
theorem dX6_back_30 : decode cX6_back 30 = .ok (.aload_n 0, 1) := by decide +kernel
theorem dX6_back_31 : decode cX6_back 31 = .ok (.getfield 16, 3) := by decide +kernel
theorem dX6_back_34 : decode cX6_back 34 = .ok (.aload_n 0, 1) := by decide +kernel
theorem dX6_back_35 : decode cX6_back 35 = .ok (.getfield 7, 3) := by decide +kernel
theorem dX6_back_38 : decode cX6_back 38 = .ok (.invokestatic 36, 3) := by decide +kernel
theorem dX6_back_41 : decode cX6_back 41 = .ok (.iload_n 1, 1) := by decide +kernel
theorem dX6_back_42 : decode cX6_back 42 = .ok (.ireturn, 1) := by decide +kernel
theorem dX6_fail_0 : decode cX6_fail 0 = .ok (.aload_n 0, 1) := by decide +kernel
theorem dX6_fail_1 : decode cX6_fail 1 = .ok (.iload_n 1, 1) := by decide +kernel
theorem dX6_fail_2 : decode cX6_fail 2 = .ok (.iconst (-1), 1) := by decide +kernel
theorem dX6_fail_3 : decode cX6_fail 3 = .ok (.if_icmp .ge 7, 3) := by decide +kernel
theorem dX6_fail_6 : decode cX6_fail 6 = .ok (.iconst 1, 1) := by decide +kernel
theorem dX6_fail_7 : decode cX6_fail 7 = .ok (.goto 4, 3) := by decide +kernel
theorem dX6_fail_10 : decode cX6_fail 10 = .ok (.iconst 0, 1) := by decide +kernel
theorem dX6_fail_11 : decode cX6_fail 11 = .ok (.putfield 40, 3) := by decide +kernel
theorem dX6_fail_14 : decode cX6_fail 14 = .ok (.aload_n 0, 1) := by decide +kernel
theorem dX6_fail_15 : decode cX6_fail 15 = .ok (.aload_n 0, 1) := by decide +kernel
theorem dX6_fail_16 : decode cX6_fail 16 = .ok (.getfield 40, 3) := by decide +kernel
theorem dX6_fail_19 : decode cX6_fail 19 = .ok (.ifCond .le 10, 3) := by decide +kernel
theorem dX6_fail_22 : decode cX6_fail 22 = .ok (.aload_n 0, 1) := by decide +kernel
theorem dX6_fail_23 : decode cX6_fail 23 = .ok (.getfield 26, 3) := by decide +kernel
theorem dX6_fail_26 : decode cX6_fail 26 = .ok (.goto 4, 3) := by decide +kernel
theorem dX6_fail_29 : decode cX6_fail 29 = .ok (.iload_n 1, 1) := by decide +kernel
theorem dX6_fail_30 : decode cX6_fail 30 = .ok (.putfield 26, 3) := by decide +kernel
theorem dX6_fail_33 : decode cX6_fail 33 = .ok (.return_, 1) := by decide +kernel
theorem dX6_off_0 : decode cX6_off 0 = .ok (.aload_n 0, 1) := by decide +kernel
theorem dX6_off_1 : decode cX6_off 1 = .ok (.iconst 0, 1) := by decide +kernel
theorem dX6_off_2 : decode cX6_off 2 = .ok (.putfield 40, 3) := by decide +kernel
theorem dX6_off_5 : decode cX6_off 5 = .ok (.aload_n 0, 1) := by decide +kernel
theorem dX6_off_6 : decode cX6_off 6 = .ok (.getfield 149, 3) := by decide +kernel
theorem dX6_off_9 : decode cX6_off 9 = .ok (.ireturn, 1) := by decide +kernel
theorem dX6_recover_0 : decode cX6_recover 0 = .ok (.aload_n 0, 1) := by decide +kernel
theorem dX6_recover_1 : decode cX6_recover 1 = .ok (.aload_n 0, 1) := by decide +kernel
theorem dX6_recover_2 : decode cX6_recover 2 = .ok (.getfield 149, 3) := by decide +kernel
theorem dX6_recover_5 : decode cX6_recover 5 = .ok (.ifCond .eq 7, 3) := by decide +kernel
theorem dX6_recover_8 : decode cX6_recover 8 = .ok (.iconst 0, 1) := by decide +kernel
theorem dX6_recover_9 : decode cX6_recover 9 = .ok (.goto 4, 3) := by decide +kernel
theorem dX6_recover_12 : decode cX6_recover 12 = .ok (.iconst 1, 1) := by decide +kernel
theorem dX6_recover_13 : decode cX6_recover 13 = .ok (.putfield 40, 3) := by decide +kernel
theorem dX6_recover_16 : decode cX6_recover 16 = .ok (.aload_n 0, 1) := by decide +kernel
theorem dX6_recover_17 : decode cX6_recover 17 = .ok (.getfield 40, 3) := by decide +kernel
theorem dX6_recover_20 : decode cX6_recover 20 = .ok (.ifCond .le 5, 3) := by decide +kernel
theorem dX6_recover_23 : decode cX6_recover 23 = .ok (.iconst 0, 1) := by decide +kernel
theorem dX6_recover_24 : decode cX6_recover 24 = .ok (.ireturn, 1) := by decide +kernel
theorem dX6_recover_25 : decode cX6_recover 25 = .ok (.aload_n 0, 1) := by decide +kernel
theorem dX6_recover_26 : decode cX6_recover 26 = .ok (.iconst 0, 1) := by decide +kernel
theorem dX6_recover_27 : decode cX6_recover 27 = .ok (.putfield 149, 3) := by decide +kernel
theorem dX6_recover_30 : decode cX6_recover 30 = .ok (.aload_n 0, 1) := by decide +kernel
theorem dX6_recover_31 : decode cX6_recover 31 = .ok (.getfield 16, 3) := by decide +kernel
theorem dX6_recover_34 : decode cX6_recover 34 = .ok (.aload_n 0, 1) := by decide +kernel
theorem dX6_recover_35 : decode cX6_recover 35 = .ok (.getfield 7, 3) := by decide +kernel
theorem dX6_recover_38 : decode cX6_recover 38 = .ok (.invokestatic 36, 3) := by decide +kernel
theorem dX6_recover_41 : decode cX6_recover 41 = .ok (.aload_n 0, 1) := by decide +kernel
theorem dX6_recover_42 : decode cX6_recover 42 = .ok (.iconst 0, 1) := by decide +kernel
theorem dX6_recover_43 : decode cX6_recover 43 = .ok (.putfield 217, 3) := by decide +kernel
theorem dX6_recover_46 : decode cX6_recover 46 = .ok (.aload_n 0, 1) := by decide +kernel
theorem dX6_recover_47 : decode cX6_recover 47 = .ok (.invokevirtual 233, 3) := by decide +kernel
theorem dX6_recover_50 : decode cX6_recover 50 = .ok (.istore_n 1, 1) := by decide +kernel
theorem dX6_recover_51 : decode cX6_recover 51 = .ok (.aload_n 0, 1) := by decide +kernel
theorem dX6_recover_52 : decode cX6_recover 52 = .ok (.getfield 217, 3) := by decide +kernel
theorem dX6_recover_55 : decode cX6_recover 55 = .ok (.ireturn, 1) := by decide +kernel
theorem dX6_usedOfAll_0 : decode cX6_usedOfAll 0 = .ok (.iconst 0, 1) := by decide +kernel
theorem dX6_usedOfAll_1 : decode cX6_usedOfAll 1 = .ok (.istore_n 1, 1) := by decide +kernel
theorem dX6_usedOfAll_2 : decode cX6_usedOfAll 2 = .ok (.iconst 0, 1) := by decide +kernel
theorem dX6_usedOfAll_3 : decode cX6_usedOfAll 3 = .ok (.istore_n 2, 1) := by decide +kernel
theorem dX6_usedOfAll_4 : decode cX6_usedOfAll 4 = .ok (.iload_n 2, 1) := by decide +kernel
theorem dX6_usedOfAll_5 : decode cX6_usedOfAll 5 = .ok (.aload_n 0, 1) := by decide +kernel
theorem dX6_usedOfAll_6 : decode cX6_usedOfAll 6 = .ok (.getfield 7, 3) := by decide +kernel
theorem dX6_usedOfAll_9 : decode cX6_usedOfAll 9 = .ok (.sipush 13068, 3) := by decide +kernel
theorem dX6_usedOfAll_12 : decode cX6_usedOfAll 12 = .ok (.iaload, 1) := by decide +kernel
theorem dX6_usedOfAll_13 : decode cX6_usedOfAll 13 = .ok (.if_icmp .ge 26, 3) := by decide +kernel
theorem dX6_usedOfAll_16 : decode cX6_usedOfAll 16 = .ok (.iload_n 1, 1) := by decide +kernel
theorem dX6_usedOfAll_17 : decode cX6_usedOfAll 17 = .ok (.aload_n 0, 1) := by decide +kernel
theorem dX6_usedOfAll_18 : decode cX6_usedOfAll 18 = .ok (.aload_n 0, 1) := by decide +kernel
theorem dX6_usedOfAll_19 : decode cX6_usedOfAll 19 = .ok (.getfield 7, 3) := by decide +kernel
theorem dX6_usedOfAll_22 : decode cX6_usedOfAll 22 = .ok (.sipush 12300, 3) := by decide +kernel
theorem dX6_usedOfAll_25 : decode cX6_usedOfAll 25 = .ok (.iload_n 2, 1) := by decide +kernel
theorem dX6_usedOfAll_26 : decode cX6_usedOfAll 26 = .ok (.iadd, 1) := by decide +kernel
theorem dX6_usedOfAll_27 : decode cX6_usedOfAll 27 = .ok (.iaload, 1) := by decide +kernel
theorem dX6_usedOfAll_28 : decode cX6_usedOfAll 28 = .ok (.invokevirtual 97, 3) := by decide +kernel
theorem dX6_usedOfAll_31 : decode cX6_usedOfAll 31 = .ok (.iadd, 1) := by decide +kernel
theorem dX6_usedOfAll_32 : decode cX6_usedOfAll 32 = .ok (.istore_n 1, 1) := by decide +kernel
theorem dX6_usedOfAll_33 : decode cX6_usedOfAll 33 = .ok (.iinc 2 1, 3) := by decide +kernel
theorem dX6_usedOfAll_36 : decode cX6_usedOfAll 36 = .ok (.goto (-32), 3) := by decide +kernel
theorem dX6_usedOfAll_39 : decode cX6_usedOfAll 39 = .ok (.iload_n 1, 1) := by decide +kernel
theorem dX6_usedOfAll_40 : decode cX6_usedOfAll 40 = .ok (.ireturn, 1) := by decide +kernel
theorem dX6_inUse_0 : decode cX6_inUse 0 = .ok (.iconst 0, 1) := by decide +kernel
theorem dX6_inUse_1 : decode cX6_inUse 1 = .ok (.istore_n 1, 1) := by decide +kernel
theorem dX6_inUse_2 : decode cX6_inUse 2 = .ok (.iconst 0, 1) := by decide +kernel
theorem dX6_inUse_3 : decode cX6_inUse 3 = .ok (.istore_n 2, 1) := by decide +kernel
theorem dX6_inUse_4 : decode cX6_inUse 4 = .ok (.iload_n 2, 1) := by decide +kernel
theorem dX6_inUse_5 : decode cX6_inUse 5 = .ok (.aload_n 0, 1) := by decide +kernel
theorem dX6_inUse_6 : decode cX6_inUse 6 = .ok (.getfield 30, 3) := by decide +kernel
theorem dX6_inUse_9 : decode cX6_inUse 9 = .ok (.if_icmp .ge 20, 3) := by decide +kernel
theorem dX6_inUse_12 : decode cX6_inUse 12 = .ok (.iload_n 1, 1) := by decide +kernel
theorem dX6_inUse_13 : decode cX6_inUse 13 = .ok (.aload_n 0, 1) := by decide +kernel
theorem dX6_inUse_14 : decode cX6_inUse 14 = .ok (.getfield 7, 3) := by decide +kernel
theorem dX6_inUse_17 : decode cX6_inUse 17 = .ok (.iconst 0, 1) := by decide +kernel
theorem dX6_inUse_18 : decode cX6_inUse 18 = .ok (.iload_n 2, 1) := by decide +kernel
theorem dX6_inUse_19 : decode cX6_inUse 19 = .ok (.iadd, 1) := by decide +kernel
theorem dX6_inUse_20 : decode cX6_inUse 20 = .ok (.iaload, 1) := by decide +kernel
theorem dX6_inUse_21 : decode cX6_inUse 21 = .ok (.iadd, 1) := by decide +kernel
theorem dX6_inUse_22 : decode cX6_inUse 22 = .ok (.istore_n 1, 1) := by decide +kernel
theorem dX6_inUse_23 : decode cX6_inUse 23 = .ok (.iinc 2 1, 3) := by decide +kernel
theorem dX6_inUse_26 : decode cX6_inUse 26 = .ok (.goto (-22), 3) := by decide +kernel
theorem dX6_inUse_29 : decode cX6_inUse 29 = .ok (.iload_n 1, 1) := by decide +kernel
theorem dX6_inUse_30 : decode cX6_inUse 30 = .ok (.ireturn, 1) := by decide +kernel
theorem dX6_count_0 : decode cX6_count 0 = .ok (.aload_n 0, 1) := by decide +kernel
theorem dX6_count_1 : decode cX6_count 1 = .ok (.aload_n 0, 1) := by decide +kernel
theorem dX6_count_2 : decode cX6_count 2 = .ok (.getfield 149, 3) := by decide +kernel
theorem dX6_count_5 : decode cX6_count 5 = .ok (.ifCond .eq 7, 3) := by decide +kernel
theorem dX6_count_8 : decode cX6_count 8 = .ok (.iconst 1, 1) := by decide +kernel
theorem dX6_count_9 : decode cX6_count 9 = .ok (.goto 18, 3) := by decide +kernel
theorem dX6_count_12 : decode cX6_count 12 = .ok (.iload_n 1, 1) := by decide +kernel
theorem dX6_count_13 : decode cX6_count 13 = .ok (.iconst 0, 1) := by decide +kernel
theorem dX6_count_14 : decode cX6_count 14 = .ok (.bipush 9, 2) := by decide +kernel
theorem dX6_count_16 : decode cX6_count 16 = .ok (.invokestatic 43, 3) := by decide +kernel
theorem dX6_count_19 : decode cX6_count 19 = .ok (.ifCond .ne 7, 3) := by decide +kernel
theorem dX6_count_22 : decode cX6_count 22 = .ok (.iconst 2, 1) := by decide +kernel
theorem dX6_count_23 : decode cX6_count 23 = .ok (.goto 4, 3) := by decide +kernel
theorem dX6_count_26 : decode cX6_count 26 = .ok (.iconst 0, 1) := by decide +kernel
theorem dX6_count_27 : decode cX6_count 27 = .ok (.putfield 40, 3) := by decide +kernel
theorem dX6_count_30 : decode cX6_count 30 = .ok (.aload_n 0, 1) := by decide +kernel
theorem dX6_count_31 : decode cX6_count 31 = .ok (.getfield 40, 3) := by decide +kernel
theorem dX6_count_34 : decode cX6_count 34 = .ok (.ifCond .le 5, 3) := by decide +kernel
theorem dX6_count_37 : decode cX6_count 37 = .ok (.iconst 0, 1) := by decide +kernel
theorem dX6_count_38 : decode cX6_count 38 = .ok (.ireturn, 1) := by decide +kernel
theorem dX6_count_39 : decode cX6_count 39 = .ok (.iload_n 1, 1) := by decide +kernel
theorem dX6_count_40 : decode cX6_count 40 = .ok (.tableswitch 105 0 8 #[52, 57, 66, 75, 80, 85, 90, 95, 100], 52) := by decide +kernel
theorem dX6_count_92 : decode cX6_count 92 = .ok (.aload_n 0, 1) := by decide +kernel
theorem dX6_count_93 : decode cX6_count 93 = .ok (.invokevirtual 239, 3) := by decide +kernel
theorem dX6_count_96 : decode cX6_count 96 = .ok (.ireturn, 1) := by decide +kernel
theorem dX6_count_97 : decode cX6_count 97 = .ok (.aload_n 0, 1) := by decide +kernel
theorem dX6_count_98 : decode cX6_count 98 = .ok (.getfield 7, 3) := by decide +kernel
theorem dX6_count_101 : decode cX6_count 101 = .ok (.sipush 13068, 3) := by decide +kernel
theorem dX6_count_104 : decode cX6_count 104 = .ok (.iaload, 1) := by decide +kernel
theorem dX6_count_105 : decode cX6_count 105 = .ok (.ireturn, 1) := by decide +kernel
theorem dX6_count_106 : decode cX6_count 106 = .ok (.aload_n 0, 1) := by decide +kernel
theorem dX6_count_107 : decode cX6_count 107 = .ok (.getfield 7, 3) := by decide +kernel
theorem dX6_count_110 : decode cX6_count 110 = .ok (.sipush 13077, 3) := by decide +kernel
theorem dX6_count_113 : decode cX6_count 113 = .ok (.iaload, 1) := by decide +kernel
theorem dX6_count_114 : decode cX6_count 114 = .ok (.ireturn, 1) := by decide +kernel
theorem dX6_count_115 : decode cX6_count 115 = .ok (.aload_n 0, 1) := by decide +kernel
theorem dX6_count_116 : decode cX6_count 116 = .ok (.invokevirtual 161, 3) := by decide +kernel
theorem dX6_count_119 : decode cX6_count 119 = .ok (.ireturn, 1) := by decide +kernel
theorem dX6_count_120 : decode cX6_count 120 = .ok (.aload_n 0, 1) := by decide +kernel
theorem dX6_count_121 : decode cX6_count 121 = .ok (.invokevirtual 195, 3) := by decide +kernel
theorem dX6_count_124 : decode cX6_count 124 = .ok (.ireturn, 1) := by decide +kernel
theorem dX6_count_125 : decode cX6_count 125 = .ok (.aload_n 0, 1) := by decide +kernel
theorem dX6_count_126 : decode cX6_count 126 = .ok (.invokevirtual 242, 3) := by decide +kernel
theorem dX6_count_129 : decode cX6_count 129 = .ok (.ireturn, 1) := by decide +kernel
theorem dX6_count_130 : decode cX6_count 130 = .ok (.aload_n 0, 1) := by decide +kernel
theorem dX6_count_131 : decode cX6_count 131 = .ok (.invokevirtual 230, 3) := by decide +kernel
theorem dX6_count_134 : decode cX6_count 134 = .ok (.ireturn, 1) := by decide +kernel
theorem dX6_count_135 : decode cX6_count 135 = .ok (.aload_n 0, 1) := by decide +kernel
theorem dX6_count_136 : decode cX6_count 136 = .ok (.getfield 223, 3) := by decide +kernel
theorem dX6_count_139 : decode cX6_count 139 = .ok (.ireturn, 1) := by decide +kernel
theorem dX6_count_140 : decode cX6_count 140 = .ok (.aload_n 0, 1) := by decide +kernel
theorem dX6_count_141 : decode cX6_count 141 = .ok (.getfield 220, 3) := by decide +kernel
theorem dX6_count_144 : decode cX6_count 144 = .ok (.ireturn, 1) := by decide +kernel
theorem dX6_count_145 : decode cX6_count 145 = .ok (.aload_n 0, 1) := by decide +kernel
theorem dX6_count_146 : decode cX6_count 146 = .ok (.getfield 236, 3) := by decide +kernel
theorem dX6_count_149 : decode cX6_count 149 = .ok (.ireturn, 1) := by decide +kernel
theorem dJ9_max_7cf53_0 : decode cJ9_max_7cf53 0 = .ok (.iload_n 0, 1) := by decide +kernel
theorem dJ9_max_7cf53_1 : decode cJ9_max_7cf53 1 = .ok (.iload_n 1, 1) := by decide +kernel
theorem dJ9_max_7cf53_2 : decode cJ9_max_7cf53 2 = .ok (.if_icmp .lt 7, 3) := by decide +kernel
theorem dJ9_max_7cf53_5 : decode cJ9_max_7cf53 5 = .ok (.iload_n 0, 1) := by decide +kernel
theorem dJ9_max_7cf53_6 : decode cJ9_max_7cf53 6 = .ok (.goto 4, 3) := by decide +kernel
theorem dJ9_max_7cf53_9 : decode cJ9_max_7cf53 9 = .ok (.iload_n 1, 1) := by decide +kernel
theorem dJ9_max_7cf53_10 : decode cJ9_max_7cf53 10 = .ok (.ireturn, 1) := by decide +kernel
theorem dJ9_min_7cf53_0 : decode cJ9_min_7cf53 0 = .ok (.iload_n 0, 1) := by decide +kernel
theorem dJ9_min_7cf53_1 : decode cJ9_min_7cf53 1 = .ok (.iload_n 1, 1) := by decide +kernel
theorem dJ9_min_7cf53_2 : decode cJ9_min_7cf53 2 = .ok (.if_icmp .gt 7, 3) := by decide +kernel
theorem dJ9_min_7cf53_5 : decode cJ9_min_7cf53 5 = .ok (.iload_n 0, 1) := by decide +kernel
theorem dJ9_min_7cf53_6 : decode cJ9_min_7cf53 6 = .ok (.goto 4, 3) := by decide +kernel
theorem dJ9_min_7cf53_9 : decode cJ9_min_7cf53 9 = .ok (.iload_n 1, 1) := by decide +kernel
theorem dJ9_min_7cf53_10 : decode cJ9_min_7cf53 10 = .ok (.ireturn, 1) := by decide +kernel
theorem dJ7_fill_53178_0 : decode cJ7_fill_53178 0 = .ok (.iconst 0, 1) := by decide +kernel
theorem dJ7_fill_53178_1 : decode cJ7_fill_53178 1 = .ok (.istore_n 2, 1) := by decide +kernel
theorem dJ7_fill_53178_2 : decode cJ7_fill_53178 2 = .ok (.aload_n 0, 1) := by decide +kernel
theorem dJ7_fill_53178_3 : decode cJ7_fill_53178 3 = .ok (.arraylength, 1) := by decide +kernel
theorem dJ7_fill_53178_4 : decode cJ7_fill_53178 4 = .ok (.istore_n 3, 1) := by decide +kernel
theorem dJ7_fill_53178_5 : decode cJ7_fill_53178 5 = .ok (.iload_n 2, 1) := by decide +kernel
theorem dJ7_fill_53178_6 : decode cJ7_fill_53178 6 = .ok (.iload_n 3, 1) := by decide +kernel
theorem dJ7_fill_53178_7 : decode cJ7_fill_53178 7 = .ok (.if_icmp .ge 13, 3) := by decide +kernel
theorem dJ7_fill_53178_10 : decode cJ7_fill_53178 10 = .ok (.aload_n 0, 1) := by decide +kernel
theorem dJ7_fill_53178_11 : decode cJ7_fill_53178 11 = .ok (.iload_n 2, 1) := by decide +kernel
theorem dJ7_fill_53178_12 : decode cJ7_fill_53178 12 = .ok (.iload_n 1, 1) := by decide +kernel
theorem dJ7_fill_53178_13 : decode cJ7_fill_53178 13 = .ok (.iastore, 1) := by decide +kernel
theorem dJ7_fill_53178_14 : decode cJ7_fill_53178 14 = .ok (.iinc 2 1, 3) := by decide +kernel
theorem dJ7_fill_53178_17 : decode cJ7_fill_53178 17 = .ok (.goto (-12), 3) := by decide +kernel
theorem dJ7_fill_53178_20 : decode cJ7_fill_53178 20 = .ok (.return_, 1) := by decide +kernel
theorem dJ7_fill_031fb_0 : decode cJ7_fill_031fb 0 = .ok (.iconst 0, 1) := by decide +kernel
theorem dJ7_fill_031fb_1 : decode cJ7_fill_031fb 1 = .ok (.istore_n 2, 1) := by decide +kernel
theorem dJ7_fill_031fb_2 : decode cJ7_fill_031fb 2 = .ok (.aload_n 0, 1) := by decide +kernel
theorem dJ7_fill_031fb_3 : decode cJ7_fill_031fb 3 = .ok (.arraylength, 1) := by decide +kernel
theorem dJ7_fill_031fb_4 : decode cJ7_fill_031fb 4 = .ok (.istore_n 3, 1) := by decide +kernel
theorem dJ7_fill_031fb_5 : decode cJ7_fill_031fb 5 = .ok (.iload_n 2, 1) := by decide +kernel
theorem dJ7_fill_031fb_6 : decode cJ7_fill_031fb 6 = .ok (.iload_n 3, 1) := by decide +kernel
theorem dJ7_fill_031fb_7 : decode cJ7_fill_031fb 7 = .ok (.if_icmp .ge 13, 3) := by decide +kernel
theorem dJ7_fill_031fb_10 : decode cJ7_fill_031fb 10 = .ok (.aload_n 0, 1) := by decide +kernel
theorem dJ7_fill_031fb_11 : decode cJ7_fill_031fb 11 = .ok (.iload_n 2, 1) := by decide +kernel
theorem dJ7_fill_031fb_12 : decode cJ7_fill_031fb 12 = .ok (.iload_n 1, 1) := by decide +kernel
theorem dJ7_fill_031fb_13 : decode cJ7_fill_031fb 13 = .ok (.bastore, 1) := by decide +kernel
theorem dJ7_fill_031fb_14 : decode cJ7_fill_031fb 14 = .ok (.iinc 2 1, 3) := by decide +kernel
theorem dJ7_fill_031fb_17 : decode cJ7_fill_031fb 17 = .ok (.goto (-12), 3) := by decide +kernel
theorem dJ7_fill_031fb_20 : decode cJ7_fill_031fb 20 = .ok (.return_, 1) := by decide +kernel
theorem dL_cell_0 : decode cL_cell 0 = .ok (.iload_n 1, 1) := by decide +kernel
theorem dL_cell_1 : decode cL_cell 1 = .ok (.aload_n 0, 1) := by decide +kernel
theorem dL_cell_2 : decode cL_cell 2 = .ok (.arraylength, 1) := by decide +kernel
theorem dL_cell_3 : decode cL_cell 3 = .ok (.if_icmp .ge 9, 3) := by decide +kernel
theorem dL_cell_6 : decode cL_cell 6 = .ok (.aload_n 0, 1) := by decide +kernel
theorem dL_cell_7 : decode cL_cell 7 = .ok (.iload_n 1, 1) := by decide +kernel
theorem dL_cell_8 : decode cL_cell 8 = .ok (.iaload, 1) := by decide +kernel
theorem dL_cell_9 : decode cL_cell 9 = .ok (.goto 4, 3) := by decide +kernel
theorem dL_cell_12 : decode cL_cell 12 = .ok (.iconst 0, 1) := by decide +kernel
theorem dL_cell_13 : decode cL_cell 13 = .ok (.ireturn, 1) := by decide +kernel
theorem dL_make_0 : decode cL_make 0 = .ok (.aload 4, 2) := by decide +kernel
theorem dL_make_2 : decode cL_make 2 = .ok (.iconst 0, 1) := by decide +kernel
theorem dL_make_3 : decode cL_make 3 = .ok (.aload_n 0, 1) := by decide +kernel
theorem dL_make_4 : decode cL_make 4 = .ok (.iload_n 1, 1) := by decide +kernel
theorem dL_make_5 : decode cL_make 5 = .ok (.iload_n 2, 1) := by decide +kernel
theorem dL_make_6 : decode cL_make 6 = .ok (.iload_n 3, 1) := by decide +kernel
theorem dL_make_7 : decode cL_make 7 = .ok (.invokevirtual 7, 3) := by decide +kernel
theorem dL_make_10 : decode cL_make 10 = .ok (.i2l, 1) := by decide +kernel
theorem dL_make_11 : decode cL_make 11 = .ok (.lastore, 1) := by decide +kernel
theorem dL_make_12 : decode cL_make 12 = .ok (.goto 19, 3) := by decide +kernel
theorem dL_make_15 : decode cL_make 15 = .ok (.astore 5, 2) := by decide +kernel
theorem dL_make_17 : decode cL_make 17 = .ok (.iconst 1, 1) := by decide +kernel
theorem dL_make_18 : decode cL_make 18 = .ok (.ireturn, 1) := by decide +kernel
theorem dL_make_19 : decode cL_make 19 = .ok (.astore 5, 2) := by decide +kernel
theorem dL_make_21 : decode cL_make 21 = .ok (.iconst 2, 1) := by decide +kernel
theorem dL_make_22 : decode cL_make 22 = .ok (.ireturn, 1) := by decide +kernel
theorem dL_make_23 : decode cL_make 23 = .ok (.astore 5, 2) := by decide +kernel
theorem dL_make_25 : decode cL_make 25 = .ok (.iconst 3, 1) := by decide +kernel
theorem dL_make_26 : decode cL_make 26 = .ok (.ireturn, 1) := by decide +kernel
theorem dL_make_27 : decode cL_make 27 = .ok (.astore 5, 2) := by decide +kernel
theorem dL_make_29 : decode cL_make 29 = .ok (.iconst 4, 1) := by decide +kernel
theorem dL_make_30 : decode cL_make 30 = .ok (.ireturn, 1) := by decide +kernel
theorem dL_make_31 : decode cL_make 31 = .ok (.iconst 0, 1) := by decide +kernel
theorem dL_make_32 : decode cL_make 32 = .ok (.ireturn, 1) := by decide +kernel
theorem dL_link_0 : decode cL_link 0 = .ok (.aload 4, 2) := by decide +kernel
theorem dL_link_2 : decode cL_link 2 = .ok (.iconst 0, 1) := by decide +kernel
theorem dL_link_3 : decode cL_link 3 = .ok (.aload_n 0, 1) := by decide +kernel
theorem dL_link_4 : decode cL_link 4 = .ok (.iload_n 1, 1) := by decide +kernel
theorem dL_link_5 : decode cL_link 5 = .ok (.iload_n 2, 1) := by decide +kernel
theorem dL_link_6 : decode cL_link 6 = .ok (.iload_n 3, 1) := by decide +kernel
theorem dL_link_7 : decode cL_link 7 = .ok (.invokevirtual 21, 3) := by decide +kernel
theorem dL_link_10 : decode cL_link 10 = .ok (.i2l, 1) := by decide +kernel
theorem dL_link_11 : decode cL_link 11 = .ok (.lastore, 1) := by decide +kernel
theorem dL_link_12 : decode cL_link 12 = .ok (.goto 19, 3) := by decide +kernel
theorem dL_link_15 : decode cL_link 15 = .ok (.astore 5, 2) := by decide +kernel
theorem dL_link_17 : decode cL_link 17 = .ok (.iconst 1, 1) := by decide +kernel
theorem dL_link_18 : decode cL_link 18 = .ok (.ireturn, 1) := by decide +kernel
theorem dL_link_19 : decode cL_link 19 = .ok (.astore 5, 2) := by decide +kernel
theorem dL_link_21 : decode cL_link 21 = .ok (.iconst 2, 1) := by decide +kernel
theorem dL_link_22 : decode cL_link 22 = .ok (.ireturn, 1) := by decide +kernel
theorem dL_link_23 : decode cL_link 23 = .ok (.astore 5, 2) := by decide +kernel
theorem dL_link_25 : decode cL_link 25 = .ok (.iconst 3, 1) := by decide +kernel
theorem dL_link_26 : decode cL_link 26 = .ok (.ireturn, 1) := by decide +kernel
theorem dL_link_27 : decode cL_link 27 = .ok (.astore 5, 2) := by decide +kernel
theorem dL_link_29 : decode cL_link 29 = .ok (.iconst 4, 1) := by decide +kernel
theorem dL_link_30 : decode cL_link 30 = .ok (.ireturn, 1) := by decide +kernel
theorem dL_link_31 : decode cL_link 31 = .ok (.iconst 0, 1) := by decide +kernel
theorem dL_link_32 : decode cL_link 32 = .ok (.ireturn, 1) := by decide +kernel
theorem dL_unlink_0 : decode cL_unlink 0 = .ok (.aload_n 3, 1) := by decide +kernel
theorem dL_unlink_1 : decode cL_unlink 1 = .ok (.iconst 0, 1) := by decide +kernel
theorem dL_unlink_2 : decode cL_unlink 2 = .ok (.aload_n 0, 1) := by decide +kernel
theorem dL_unlink_3 : decode cL_unlink 3 = .ok (.iload_n 1, 1) := by decide +kernel
theorem dL_unlink_4 : decode cL_unlink 4 = .ok (.iload_n 2, 1) := by decide +kernel
theorem dL_unlink_5 : decode cL_unlink 5 = .ok (.invokevirtual 25, 3) := by decide +kernel
theorem dL_unlink_8 : decode cL_unlink 8 = .ok (.i2l, 1) := by decide +kernel
theorem dL_unlink_9 : decode cL_unlink 9 = .ok (.lastore, 1) := by decide +kernel
theorem dL_unlink_10 : decode cL_unlink 10 = .ok (.goto 15, 3) := by decide +kernel
theorem dL_unlink_13 : decode cL_unlink 13 = .ok (.astore 4, 2) := by decide +kernel
theorem dL_unlink_15 : decode cL_unlink 15 = .ok (.iconst 1, 1) := by decide +kernel
theorem dL_unlink_16 : decode cL_unlink 16 = .ok (.ireturn, 1) := by decide +kernel
theorem dL_unlink_17 : decode cL_unlink 17 = .ok (.astore 4, 2) := by decide +kernel
theorem dL_unlink_19 : decode cL_unlink 19 = .ok (.iconst 2, 1) := by decide +kernel
theorem dL_unlink_20 : decode cL_unlink 20 = .ok (.ireturn, 1) := by decide +kernel
theorem dL_unlink_21 : decode cL_unlink 21 = .ok (.astore 4, 2) := by decide +kernel
theorem dL_unlink_23 : decode cL_unlink 23 = .ok (.iconst 3, 1) := by decide +kernel
theorem dL_unlink_24 : decode cL_unlink 24 = .ok (.ireturn, 1) := by decide +kernel
theorem dL_unlink_25 : decode cL_unlink 25 = .ok (.iconst 0, 1) := by decide +kernel
theorem dL_unlink_26 : decode cL_unlink 26 = .ok (.ireturn, 1) := by decide +kernel
theorem dL_move_0 : decode cL_move 0 = .ok (.aload 5, 2) := by decide +kernel
theorem dL_move_2 : decode cL_move 2 = .ok (.iconst 0, 1) := by decide +kernel
theorem dL_move_3 : decode cL_move 3 = .ok (.aload_n 0, 1) := by decide +kernel
theorem dL_move_4 : decode cL_move 4 = .ok (.iload_n 1, 1) := by decide +kernel
theorem dL_move_5 : decode cL_move 5 = .ok (.iload_n 2, 1) := by decide +kernel
theorem dL_move_6 : decode cL_move 6 = .ok (.iload_n 3, 1) := by decide +kernel
theorem dL_move_7 : decode cL_move 7 = .ok (.iload 4, 2) := by decide +kernel
theorem dL_move_9 : decode cL_move 9 = .ok (.invokevirtual 29, 3) := by decide +kernel
theorem dL_move_12 : decode cL_move 12 = .ok (.i2l, 1) := by decide +kernel
theorem dL_move_13 : decode cL_move 13 = .ok (.lastore, 1) := by decide +kernel
theorem dL_move_14 : decode cL_move 14 = .ok (.goto 19, 3) := by decide +kernel
theorem dL_move_17 : decode cL_move 17 = .ok (.astore 6, 2) := by decide +kernel
theorem dL_move_19 : decode cL_move 19 = .ok (.iconst 1, 1) := by decide +kernel
theorem dL_move_20 : decode cL_move 20 = .ok (.ireturn, 1) := by decide +kernel
theorem dL_move_21 : decode cL_move 21 = .ok (.astore 6, 2) := by decide +kernel
theorem dL_move_23 : decode cL_move 23 = .ok (.iconst 2, 1) := by decide +kernel
theorem dL_move_24 : decode cL_move 24 = .ok (.ireturn, 1) := by decide +kernel
theorem dL_move_25 : decode cL_move 25 = .ok (.astore 6, 2) := by decide +kernel
theorem dL_move_27 : decode cL_move 27 = .ok (.iconst 3, 1) := by decide +kernel
theorem dL_move_28 : decode cL_move 28 = .ok (.ireturn, 1) := by decide +kernel
theorem dL_move_29 : decode cL_move 29 = .ok (.astore 6, 2) := by decide +kernel
theorem dL_move_31 : decode cL_move 31 = .ok (.iconst 4, 1) := by decide +kernel
theorem dL_move_32 : decode cL_move 32 = .ok (.ireturn, 1) := by decide +kernel
theorem dL_move_33 : decode cL_move 33 = .ok (.iconst 0, 1) := by decide +kernel
theorem dL_move_34 : decode cL_move 34 = .ok (.ireturn, 1) := by decide +kernel
theorem dL_write_0 : decode cL_write 0 = .ok (.aload 6, 2) := by decide +kernel
theorem dL_write_2 : decode cL_write 2 = .ok (.iconst 0, 1) := by decide +kernel
theorem dL_write_3 : decode cL_write 3 = .ok (.aload_n 0, 1) := by decide +kernel
theorem dL_write_4 : decode cL_write 4 = .ok (.iload_n 1, 1) := by decide +kernel
theorem dL_write_5 : decode cL_write 5 = .ok (.iload_n 2, 1) := by decide +kernel
theorem dL_write_6 : decode cL_write 6 = .ok (.lload_n 3, 1) := by decide +kernel
theorem dL_write_7 : decode cL_write 7 = .ok (.iload 5, 2) := by decide +kernel
theorem dL_write_9 : decode cL_write 9 = .ok (.invokevirtual 33, 3) := by decide +kernel
theorem dL_write_12 : decode cL_write 12 = .ok (.i2l, 1) := by decide +kernel
theorem dL_write_13 : decode cL_write 13 = .ok (.lastore, 1) := by decide +kernel
theorem dL_write_14 : decode cL_write 14 = .ok (.goto 19, 3) := by decide +kernel
theorem dL_write_17 : decode cL_write 17 = .ok (.astore 7, 2) := by decide +kernel
theorem dL_write_19 : decode cL_write 19 = .ok (.iconst 1, 1) := by decide +kernel
theorem dL_write_20 : decode cL_write 20 = .ok (.ireturn, 1) := by decide +kernel
theorem dL_write_21 : decode cL_write 21 = .ok (.astore 7, 2) := by decide +kernel
theorem dL_write_23 : decode cL_write 23 = .ok (.iconst 2, 1) := by decide +kernel
theorem dL_write_24 : decode cL_write 24 = .ok (.ireturn, 1) := by decide +kernel
theorem dL_write_25 : decode cL_write 25 = .ok (.astore 7, 2) := by decide +kernel
theorem dL_write_27 : decode cL_write 27 = .ok (.iconst 3, 1) := by decide +kernel
theorem dL_write_28 : decode cL_write 28 = .ok (.ireturn, 1) := by decide +kernel
theorem dL_write_29 : decode cL_write 29 = .ok (.astore 7, 2) := by decide +kernel
theorem dL_write_31 : decode cL_write 31 = .ok (.iconst 4, 1) := by decide +kernel
theorem dL_write_32 : decode cL_write 32 = .ok (.ireturn, 1) := by decide +kernel
theorem dL_write_33 : decode cL_write 33 = .ok (.iconst 0, 1) := by decide +kernel
theorem dL_write_34 : decode cL_write 34 = .ok (.ireturn, 1) := by decide +kernel
theorem dL_fill_0 : decode cL_fill 0 = .ok (.aload 5, 2) := by decide +kernel
theorem dL_fill_2 : decode cL_fill 2 = .ok (.iconst 0, 1) := by decide +kernel
theorem dL_fill_3 : decode cL_fill 3 = .ok (.aload_n 0, 1) := by decide +kernel
theorem dL_fill_4 : decode cL_fill 4 = .ok (.iload_n 1, 1) := by decide +kernel
theorem dL_fill_5 : decode cL_fill 5 = .ok (.iload_n 2, 1) := by decide +kernel
theorem dL_fill_6 : decode cL_fill 6 = .ok (.iload_n 3, 1) := by decide +kernel
theorem dL_fill_7 : decode cL_fill 7 = .ok (.iload 4, 2) := by decide +kernel
theorem dL_fill_9 : decode cL_fill 9 = .ok (.invokevirtual 37, 3) := by decide +kernel
theorem dL_fill_12 : decode cL_fill 12 = .ok (.i2l, 1) := by decide +kernel
theorem dL_fill_13 : decode cL_fill 13 = .ok (.lastore, 1) := by decide +kernel
theorem dL_fill_14 : decode cL_fill 14 = .ok (.goto 19, 3) := by decide +kernel
theorem dL_fill_17 : decode cL_fill 17 = .ok (.astore 6, 2) := by decide +kernel
theorem dL_fill_19 : decode cL_fill 19 = .ok (.iconst 1, 1) := by decide +kernel
theorem dL_fill_20 : decode cL_fill 20 = .ok (.ireturn, 1) := by decide +kernel
theorem dL_fill_21 : decode cL_fill 21 = .ok (.astore 6, 2) := by decide +kernel
theorem dL_fill_23 : decode cL_fill 23 = .ok (.iconst 2, 1) := by decide +kernel
theorem dL_fill_24 : decode cL_fill 24 = .ok (.ireturn, 1) := by decide +kernel
theorem dL_fill_25 : decode cL_fill 25 = .ok (.astore 6, 2) := by decide +kernel
theorem dL_fill_27 : decode cL_fill 27 = .ok (.iconst 3, 1) := by decide +kernel
theorem dL_fill_28 : decode cL_fill 28 = .ok (.ireturn, 1) := by decide +kernel
theorem dL_fill_29 : decode cL_fill 29 = .ok (.astore 6, 2) := by decide +kernel
theorem dL_fill_31 : decode cL_fill 31 = .ok (.iconst 4, 1) := by decide +kernel
theorem dL_fill_32 : decode cL_fill 32 = .ok (.ireturn, 1) := by decide +kernel
theorem dL_fill_33 : decode cL_fill 33 = .ok (.iconst 0, 1) := by decide +kernel
theorem dL_fill_34 : decode cL_fill 34 = .ok (.ireturn, 1) := by decide +kernel
theorem dL_cut_0 : decode cL_cut 0 = .ok (.aload_n 3, 1) := by decide +kernel
theorem dL_cut_1 : decode cL_cut 1 = .ok (.iconst 0, 1) := by decide +kernel
theorem dL_cut_2 : decode cL_cut 2 = .ok (.aload_n 0, 1) := by decide +kernel
theorem dL_cut_3 : decode cL_cut 3 = .ok (.iload_n 1, 1) := by decide +kernel
theorem dL_cut_4 : decode cL_cut 4 = .ok (.iload_n 2, 1) := by decide +kernel
theorem dL_cut_5 : decode cL_cut 5 = .ok (.invokevirtual 40, 3) := by decide +kernel
theorem dL_cut_8 : decode cL_cut 8 = .ok (.i2l, 1) := by decide +kernel
theorem dL_cut_9 : decode cL_cut 9 = .ok (.lastore, 1) := by decide +kernel
theorem dL_cut_10 : decode cL_cut 10 = .ok (.goto 19, 3) := by decide +kernel
theorem dL_cut_13 : decode cL_cut 13 = .ok (.astore 4, 2) := by decide +kernel
theorem dL_cut_15 : decode cL_cut 15 = .ok (.iconst 1, 1) := by decide +kernel
theorem dL_cut_16 : decode cL_cut 16 = .ok (.ireturn, 1) := by decide +kernel
theorem dL_cut_17 : decode cL_cut 17 = .ok (.astore 4, 2) := by decide +kernel
theorem dL_cut_19 : decode cL_cut 19 = .ok (.iconst 2, 1) := by decide +kernel
theorem dL_cut_20 : decode cL_cut 20 = .ok (.ireturn, 1) := by decide +kernel
theorem dL_cut_21 : decode cL_cut 21 = .ok (.astore 4, 2) := by decide +kernel
theorem dL_cut_23 : decode cL_cut 23 = .ok (.iconst 3, 1) := by decide +kernel
theorem dL_cut_24 : decode cL_cut 24 = .ok (.ireturn, 1) := by decide +kernel
theorem dL_cut_25 : decode cL_cut 25 = .ok (.astore 4, 2) := by decide +kernel
theorem dL_cut_27 : decode cL_cut 27 = .ok (.iconst 4, 1) := by decide +kernel
theorem dL_cut_28 : decode cL_cut 28 = .ok (.ireturn, 1) := by decide +kernel
theorem dL_cut_29 : decode cL_cut 29 = .ok (.iconst 0, 1) := by decide +kernel
theorem dL_cut_30 : decode cL_cut 30 = .ok (.ireturn, 1) := by decide +kernel
theorem dL_read_0 : decode cL_read 0 = .ok (.aload_n 3, 1) := by decide +kernel
theorem dL_read_1 : decode cL_read 1 = .ok (.iconst 0, 1) := by decide +kernel
theorem dL_read_2 : decode cL_read 2 = .ok (.aload_n 0, 1) := by decide +kernel
theorem dL_read_3 : decode cL_read 3 = .ok (.iload_n 1, 1) := by decide +kernel
theorem dL_read_4 : decode cL_read 4 = .ok (.iload_n 2, 1) := by decide +kernel
theorem dL_read_5 : decode cL_read 5 = .ok (.invokevirtual 43, 3) := by decide +kernel
theorem dL_read_8 : decode cL_read 8 = .ok (.i2l, 1) := by decide +kernel
theorem dL_read_9 : decode cL_read 9 = .ok (.lastore, 1) := by decide +kernel
theorem dL_read_10 : decode cL_read 10 = .ok (.goto 11, 3) := by decide +kernel
theorem dL_read_13 : decode cL_read 13 = .ok (.astore 4, 2) := by decide +kernel
theorem dL_read_15 : decode cL_read 15 = .ok (.iconst 1, 1) := by decide +kernel
theorem dL_read_16 : decode cL_read 16 = .ok (.ireturn, 1) := by decide +kernel
theorem dL_read_17 : decode cL_read 17 = .ok (.astore 4, 2) := by decide +kernel
theorem dL_read_19 : decode cL_read 19 = .ok (.iconst 2, 1) := by decide +kernel
theorem dL_read_20 : decode cL_read 20 = .ok (.ireturn, 1) := by decide +kernel
theorem dL_read_21 : decode cL_read 21 = .ok (.iconst 0, 1) := by decide +kernel
theorem dL_read_22 : decode cL_read 22 = .ok (.ireturn, 1) := by decide +kernel
theorem dL_look_0 : decode cL_look 0 = .ok (.aload_n 3, 1) := by decide +kernel
theorem dL_look_1 : decode cL_look 1 = .ok (.iconst 0, 1) := by decide +kernel
theorem dL_look_2 : decode cL_look 2 = .ok (.aload_n 0, 1) := by decide +kernel
theorem dL_look_3 : decode cL_look 3 = .ok (.iload_n 1, 1) := by decide +kernel
theorem dL_look_4 : decode cL_look 4 = .ok (.iload_n 2, 1) := by decide +kernel
theorem dL_look_5 : decode cL_look 5 = .ok (.invokevirtual 46, 3) := by decide +kernel
theorem dL_look_8 : decode cL_look 8 = .ok (.i2l, 1) := by decide +kernel
theorem dL_look_9 : decode cL_look 9 = .ok (.lastore, 1) := by decide +kernel
theorem dL_look_10 : decode cL_look 10 = .ok (.goto 11, 3) := by decide +kernel
theorem dL_look_13 : decode cL_look 13 = .ok (.astore 4, 2) := by decide +kernel
theorem dL_look_15 : decode cL_look 15 = .ok (.iconst 1, 1) := by decide +kernel
theorem dL_look_16 : decode cL_look 16 = .ok (.ireturn, 1) := by decide +kernel
theorem dL_look_17 : decode cL_look 17 = .ok (.astore 4, 2) := by decide +kernel
theorem dL_look_19 : decode cL_look 19 = .ok (.iconst 2, 1) := by decide +kernel
theorem dL_look_20 : decode cL_look 20 = .ok (.ireturn, 1) := by decide +kernel
theorem dL_look_21 : decode cL_look 21 = .ok (.iconst 0, 1) := by decide +kernel
theorem dL_look_22 : decode cL_look 22 = .ok (.ireturn, 1) := by decide +kernel
theorem dL_name_0 : decode cL_name 0 = .ok (.aload_n 3, 1) := by decide +kernel
theorem dL_name_1 : decode cL_name 1 = .ok (.iconst 0, 1) := by decide +kernel
theorem dL_name_2 : decode cL_name 2 = .ok (.aload_n 0, 1) := by decide +kernel
theorem dL_name_3 : decode cL_name 3 = .ok (.iload_n 1, 1) := by decide +kernel
theorem dL_name_4 : decode cL_name 4 = .ok (.iload_n 2, 1) := by decide +kernel
theorem dL_name_5 : decode cL_name 5 = .ok (.invokevirtual 49, 3) := by decide +kernel
theorem dL_name_8 : decode cL_name 8 = .ok (.i2l, 1) := by decide +kernel
theorem dL_name_9 : decode cL_name 9 = .ok (.lastore, 1) := by decide +kernel
theorem dL_name_10 : decode cL_name 10 = .ok (.goto 11, 3) := by decide +kernel
theorem dL_name_13 : decode cL_name 13 = .ok (.astore 4, 2) := by decide +kernel
theorem dL_name_15 : decode cL_name 15 = .ok (.iconst 1, 1) := by decide +kernel
theorem dL_name_16 : decode cL_name 16 = .ok (.ireturn, 1) := by decide +kernel
theorem dL_name_17 : decode cL_name 17 = .ok (.astore 4, 2) := by decide +kernel
theorem dL_name_19 : decode cL_name 19 = .ok (.iconst 2, 1) := by decide +kernel
theorem dL_name_20 : decode cL_name 20 = .ok (.ireturn, 1) := by decide +kernel
theorem dL_name_21 : decode cL_name 21 = .ok (.iconst 0, 1) := by decide +kernel
theorem dL_name_22 : decode cL_name 22 = .ok (.ireturn, 1) := by decide +kernel
theorem dL_about_0 : decode cL_about 0 = .ok (.aload_n 3, 1) := by decide +kernel
theorem dL_about_1 : decode cL_about 1 = .ok (.iconst 0, 1) := by decide +kernel
theorem dL_about_2 : decode cL_about 2 = .ok (.aload_n 0, 1) := by decide +kernel
theorem dL_about_3 : decode cL_about 3 = .ok (.iload_n 1, 1) := by decide +kernel
theorem dL_about_4 : decode cL_about 4 = .ok (.iload_n 2, 1) := by decide +kernel
theorem dL_about_5 : decode cL_about 5 = .ok (.invokevirtual 52, 3) := by decide +kernel
theorem dL_about_8 : decode cL_about 8 = .ok (.i2l, 1) := by decide +kernel
theorem dL_about_9 : decode cL_about 9 = .ok (.lastore, 1) := by decide +kernel
theorem dL_about_10 : decode cL_about 10 = .ok (.goto 15, 3) := by decide +kernel
theorem dL_about_13 : decode cL_about 13 = .ok (.astore 4, 2) := by decide +kernel
theorem dL_about_15 : decode cL_about 15 = .ok (.iconst 1, 1) := by decide +kernel
theorem dL_about_16 : decode cL_about 16 = .ok (.ireturn, 1) := by decide +kernel
theorem dL_about_17 : decode cL_about 17 = .ok (.astore 4, 2) := by decide +kernel
theorem dL_about_19 : decode cL_about 19 = .ok (.iconst 2, 1) := by decide +kernel
theorem dL_about_20 : decode cL_about 20 = .ok (.ireturn, 1) := by decide +kernel
theorem dL_about_21 : decode cL_about 21 = .ok (.astore 4, 2) := by decide +kernel
theorem dL_about_23 : decode cL_about 23 = .ok (.iconst 3, 1) := by decide +kernel
theorem dL_about_24 : decode cL_about 24 = .ok (.ireturn, 1) := by decide +kernel
theorem dL_about_25 : decode cL_about 25 = .ok (.iconst 0, 1) := by decide +kernel
theorem dL_about_26 : decode cL_about 26 = .ok (.ireturn, 1) := by decide +kernel
theorem dL_node_0 : decode cL_node 0 = .ok (.aload 4, 2) := by decide +kernel
theorem dL_node_2 : decode cL_node 2 = .ok (.iconst 0, 1) := by decide +kernel
theorem dL_node_3 : decode cL_node 3 = .ok (.aload_n 0, 1) := by decide +kernel
theorem dL_node_4 : decode cL_node 4 = .ok (.iload_n 1, 1) := by decide +kernel
theorem dL_node_5 : decode cL_node 5 = .ok (.iload_n 2, 1) := by decide +kernel
theorem dL_node_6 : decode cL_node 6 = .ok (.iload_n 3, 1) := by decide +kernel
theorem dL_node_7 : decode cL_node 7 = .ok (.invokevirtual 55, 3) := by decide +kernel
theorem dL_node_10 : decode cL_node 10 = .ok (.i2l, 1) := by decide +kernel
theorem dL_node_11 : decode cL_node 11 = .ok (.lastore, 1) := by decide +kernel
theorem dL_node_12 : decode cL_node 12 = .ok (.goto 15, 3) := by decide +kernel
theorem dL_node_15 : decode cL_node 15 = .ok (.astore 5, 2) := by decide +kernel
theorem dL_node_17 : decode cL_node 17 = .ok (.iconst 1, 1) := by decide +kernel
theorem dL_node_18 : decode cL_node 18 = .ok (.ireturn, 1) := by decide +kernel
theorem dL_node_19 : decode cL_node 19 = .ok (.astore 5, 2) := by decide +kernel
theorem dL_node_21 : decode cL_node 21 = .ok (.iconst 2, 1) := by decide +kernel
theorem dL_node_22 : decode cL_node 22 = .ok (.ireturn, 1) := by decide +kernel
theorem dL_node_23 : decode cL_node 23 = .ok (.astore 5, 2) := by decide +kernel
theorem dL_node_25 : decode cL_node 25 = .ok (.iconst 3, 1) := by decide +kernel
theorem dL_node_26 : decode cL_node 26 = .ok (.ireturn, 1) := by decide +kernel
theorem dL_node_27 : decode cL_node 27 = .ok (.iconst 0, 1) := by decide +kernel
theorem dL_node_28 : decode cL_node 28 = .ok (.ireturn, 1) := by decide +kernel
theorem dL_item_0 : decode cL_item 0 = .ok (.aload_n 3, 1) := by decide +kernel
theorem dL_item_1 : decode cL_item 1 = .ok (.iconst 0, 1) := by decide +kernel
theorem dL_item_2 : decode cL_item 2 = .ok (.aload_n 0, 1) := by decide +kernel
theorem dL_item_3 : decode cL_item 3 = .ok (.iload_n 1, 1) := by decide +kernel
theorem dL_item_4 : decode cL_item 4 = .ok (.iload_n 2, 1) := by decide +kernel
theorem dL_item_5 : decode cL_item 5 = .ok (.invokevirtual 58, 3) := by decide +kernel
theorem dL_item_8 : decode cL_item 8 = .ok (.i2l, 1) := by decide +kernel
theorem dL_item_9 : decode cL_item 9 = .ok (.lastore, 1) := by decide +kernel
theorem dL_item_10 : decode cL_item 10 = .ok (.goto 15, 3) := by decide +kernel
theorem dL_item_13 : decode cL_item 13 = .ok (.astore 4, 2) := by decide +kernel
theorem dL_item_15 : decode cL_item 15 = .ok (.iconst 1, 1) := by decide +kernel
theorem dL_item_16 : decode cL_item 16 = .ok (.ireturn, 1) := by decide +kernel
theorem dL_item_17 : decode cL_item 17 = .ok (.astore 4, 2) := by decide +kernel
theorem dL_item_19 : decode cL_item 19 = .ok (.iconst 2, 1) := by decide +kernel
theorem dL_item_20 : decode cL_item 20 = .ok (.ireturn, 1) := by decide +kernel
theorem dL_item_21 : decode cL_item 21 = .ok (.astore 4, 2) := by decide +kernel
theorem dL_item_23 : decode cL_item 23 = .ok (.iconst 3, 1) := by decide +kernel
theorem dL_item_24 : decode cL_item 24 = .ok (.ireturn, 1) := by decide +kernel
theorem dL_item_25 : decode cL_item 25 = .ok (.iconst 0, 1) := by decide +kernel
theorem dL_item_26 : decode cL_item 26 = .ok (.ireturn, 1) := by decide +kernel
theorem dL_commit_0 : decode cL_commit 0 = .ok (.aload_n 1, 1) := by decide +kernel
theorem dL_commit_1 : decode cL_commit 1 = .ok (.iconst 0, 1) := by decide +kernel
theorem dL_commit_2 : decode cL_commit 2 = .ok (.aload_n 0, 1) := by decide +kernel
theorem dL_commit_3 : decode cL_commit 3 = .ok (.invokevirtual 61, 3) := by decide +kernel
theorem dL_commit_6 : decode cL_commit 6 = .ok (.i2l, 1) := by decide +kernel
theorem dL_commit_7 : decode cL_commit 7 = .ok (.lastore, 1) := by decide +kernel
theorem dL_commit_8 : decode cL_commit 8 = .ok (.goto 9, 3) := by decide +kernel
theorem dL_commit_11 : decode cL_commit 11 = .ok (.astore_n 2, 1) := by decide +kernel
theorem dL_commit_12 : decode cL_commit 12 = .ok (.iconst 1, 1) := by decide +kernel
theorem dL_commit_13 : decode cL_commit 13 = .ok (.ireturn, 1) := by decide +kernel
theorem dL_commit_14 : decode cL_commit 14 = .ok (.astore_n 2, 1) := by decide +kernel
theorem dL_commit_15 : decode cL_commit 15 = .ok (.iconst 2, 1) := by decide +kernel
theorem dL_commit_16 : decode cL_commit 16 = .ok (.ireturn, 1) := by decide +kernel
theorem dL_commit_17 : decode cL_commit 17 = .ok (.iconst 0, 1) := by decide +kernel
theorem dL_commit_18 : decode cL_commit 18 = .ok (.ireturn, 1) := by decide +kernel
theorem dL_checkpoint_0 : decode cL_checkpoint 0 = .ok (.aload_n 1, 1) := by decide +kernel
theorem dL_checkpoint_1 : decode cL_checkpoint 1 = .ok (.iconst 0, 1) := by decide +kernel
theorem dL_checkpoint_2 : decode cL_checkpoint 2 = .ok (.aload_n 0, 1) := by decide +kernel
theorem dL_checkpoint_3 : decode cL_checkpoint 3 = .ok (.invokevirtual 65, 3) := by decide +kernel
theorem dL_checkpoint_6 : decode cL_checkpoint 6 = .ok (.i2l, 1) := by decide +kernel
theorem dL_checkpoint_7 : decode cL_checkpoint 7 = .ok (.lastore, 1) := by decide +kernel
theorem dL_checkpoint_8 : decode cL_checkpoint 8 = .ok (.goto 6, 3) := by decide +kernel
theorem dL_checkpoint_11 : decode cL_checkpoint 11 = .ok (.astore_n 2, 1) := by decide +kernel
theorem dL_checkpoint_12 : decode cL_checkpoint 12 = .ok (.iconst 1, 1) := by decide +kernel
theorem dL_checkpoint_13 : decode cL_checkpoint 13 = .ok (.ireturn, 1) := by decide +kernel
theorem dL_checkpoint_14 : decode cL_checkpoint 14 = .ok (.iconst 0, 1) := by decide +kernel
theorem dL_checkpoint_15 : decode cL_checkpoint 15 = .ok (.ireturn, 1) := by decide +kernel
theorem dL_back_0 : decode cL_back 0 = .ok (.aload_n 1, 1) := by decide +kernel
theorem dL_back_1 : decode cL_back 1 = .ok (.iconst 0, 1) := by decide +kernel
theorem dL_back_2 : decode cL_back 2 = .ok (.aload_n 0, 1) := by decide +kernel
theorem dL_back_3 : decode cL_back 3 = .ok (.invokevirtual 68, 3) := by decide +kernel
theorem dL_back_6 : decode cL_back 6 = .ok (.i2l, 1) := by decide +kernel
theorem dL_back_7 : decode cL_back 7 = .ok (.lastore, 1) := by decide +kernel
theorem dL_back_8 : decode cL_back 8 = .ok (.goto 6, 3) := by decide +kernel
theorem dL_back_11 : decode cL_back 11 = .ok (.astore_n 2, 1) := by decide +kernel
theorem dL_back_12 : decode cL_back 12 = .ok (.iconst 1, 1) := by decide +kernel
theorem dL_back_13 : decode cL_back 13 = .ok (.ireturn, 1) := by decide +kernel
theorem dL_back_14 : decode cL_back 14 = .ok (.iconst 0, 1) := by decide +kernel
theorem dL_back_15 : decode cL_back 15 = .ok (.ireturn, 1) := by decide +kernel
theorem dL_fail_0 : decode cL_fail 0 = .ok (.aload_n 0, 1) := by decide +kernel
theorem dL_fail_1 : decode cL_fail 1 = .ok (.iload_n 1, 1) := by decide +kernel
theorem dL_fail_2 : decode cL_fail 2 = .ok (.invokevirtual 71, 3) := by decide +kernel
theorem dL_fail_5 : decode cL_fail 5 = .ok (.goto 6, 3) := by decide +kernel
theorem dL_fail_8 : decode cL_fail 8 = .ok (.astore_n 2, 1) := by decide +kernel
theorem dL_fail_9 : decode cL_fail 9 = .ok (.iconst 1, 1) := by decide +kernel
theorem dL_fail_10 : decode cL_fail 10 = .ok (.ireturn, 1) := by decide +kernel
theorem dL_fail_11 : decode cL_fail 11 = .ok (.iconst 0, 1) := by decide +kernel
theorem dL_fail_12 : decode cL_fail 12 = .ok (.ireturn, 1) := by decide +kernel
theorem dL_recover_0 : decode cL_recover 0 = .ok (.aload_n 1, 1) := by decide +kernel
theorem dL_recover_1 : decode cL_recover 1 = .ok (.iconst 0, 1) := by decide +kernel
theorem dL_recover_2 : decode cL_recover 2 = .ok (.aload_n 0, 1) := by decide +kernel
theorem dL_recover_3 : decode cL_recover 3 = .ok (.invokevirtual 75, 3) := by decide +kernel
theorem dL_recover_6 : decode cL_recover 6 = .ok (.i2l, 1) := by decide +kernel
theorem dL_recover_7 : decode cL_recover 7 = .ok (.lastore, 1) := by decide +kernel
theorem dL_recover_8 : decode cL_recover 8 = .ok (.goto 6, 3) := by decide +kernel
theorem dL_recover_11 : decode cL_recover 11 = .ok (.astore_n 2, 1) := by decide +kernel
theorem dL_recover_12 : decode cL_recover 12 = .ok (.iconst 1, 1) := by decide +kernel
theorem dL_recover_13 : decode cL_recover 13 = .ok (.ireturn, 1) := by decide +kernel
theorem dL_recover_14 : decode cL_recover 14 = .ok (.iconst 0, 1) := by decide +kernel
theorem dL_recover_15 : decode cL_recover 15 = .ok (.ireturn, 1) := by decide +kernel
theorem dL_count_0 : decode cL_count 0 = .ok (.aload_n 2, 1) := by decide +kernel
theorem dL_count_1 : decode cL_count 1 = .ok (.iconst 0, 1) := by decide +kernel
theorem dL_count_2 : decode cL_count 2 = .ok (.aload_n 0, 1) := by decide +kernel
theorem dL_count_3 : decode cL_count 3 = .ok (.iload_n 1, 1) := by decide +kernel
theorem dL_count_4 : decode cL_count 4 = .ok (.invokevirtual 78, 3) := by decide +kernel
theorem dL_count_7 : decode cL_count 7 = .ok (.i2l, 1) := by decide +kernel
theorem dL_count_8 : decode cL_count 8 = .ok (.lastore, 1) := by decide +kernel
theorem dL_count_9 : decode cL_count 9 = .ok (.goto 9, 3) := by decide +kernel
theorem dL_count_12 : decode cL_count 12 = .ok (.astore_n 3, 1) := by decide +kernel
theorem dL_count_13 : decode cL_count 13 = .ok (.iconst 1, 1) := by decide +kernel
theorem dL_count_14 : decode cL_count 14 = .ok (.ireturn, 1) := by decide +kernel
theorem dL_count_15 : decode cL_count 15 = .ok (.astore_n 3, 1) := by decide +kernel
theorem dL_count_16 : decode cL_count 16 = .ok (.iconst 2, 1) := by decide +kernel
theorem dL_count_17 : decode cL_count 17 = .ok (.ireturn, 1) := by decide +kernel
theorem dL_count_18 : decode cL_count 18 = .ok (.iconst 0, 1) := by decide +kernel
theorem dL_count_19 : decode cL_count 19 = .ok (.ireturn, 1) := by decide +kernel
theorem dL_law_0 : decode cL_law 0 = .ok (.new 8, 3) := by decide +kernel
theorem dL_law_3 : decode cL_law 3 = .ok (.dup, 1) := by decide +kernel
theorem dL_law_4 : decode cL_law 4 = .ok (.aload_n 0, 1) := by decide +kernel
theorem dL_law_5 : decode cL_law 5 = .ok (.iconst 0, 1) := by decide +kernel
theorem dL_law_6 : decode cL_law 6 = .ok (.invokestatic 82, 3) := by decide +kernel
theorem dL_law_9 : decode cL_law 9 = .ok (.aload_n 0, 1) := by decide +kernel
theorem dL_law_10 : decode cL_law 10 = .ok (.iconst 1, 1) := by decide +kernel
theorem dL_law_11 : decode cL_law 11 = .ok (.invokestatic 82, 3) := by decide +kernel
theorem dL_law_14 : decode cL_law 14 = .ok (.invokespecial 88, 3) := by decide +kernel
theorem dL_law_17 : decode cL_law 17 = .ok (.astore_n 1, 1) := by decide +kernel
theorem dL_law_18 : decode cL_law 18 = .ok (.new 91, 3) := by decide +kernel
theorem dL_law_21 : decode cL_law 21 = .ok (.dup, 1) := by decide +kernel
theorem dL_law_22 : decode cL_law 22 = .ok (.aload_n 0, 1) := by decide +kernel
theorem dL_law_23 : decode cL_law 23 = .ok (.iconst 0, 1) := by decide +kernel
theorem dL_law_24 : decode cL_law 24 = .ok (.invokestatic 82, 3) := by decide +kernel
theorem dL_law_27 : decode cL_law 27 = .ok (.aload_n 0, 1) := by decide +kernel
theorem dL_law_28 : decode cL_law 28 = .ok (.iconst 1, 1) := by decide +kernel
theorem dL_law_29 : decode cL_law 29 = .ok (.invokestatic 82, 3) := by decide +kernel
theorem dL_law_32 : decode cL_law 32 = .ok (.invokespecial 93, 3) := by decide +kernel
theorem dL_law_35 : decode cL_law 35 = .ok (.astore_n 2, 1) := by decide +kernel
theorem dL_law_36 : decode cL_law 36 = .ok (.iconst 1, 1) := by decide +kernel
theorem dL_law_37 : decode cL_law 37 = .ok (.newarray .long, 2) := by decide +kernel
theorem dL_law_39 : decode cL_law 39 = .ok (.astore_n 3, 1) := by decide +kernel
theorem dL_law_40 : decode cL_law 40 = .ok (.iconst 2, 1) := by decide +kernel
theorem dL_law_41 : decode cL_law 41 = .ok (.istore 4, 2) := by decide +kernel
theorem dL_law_43 : decode cL_law 43 = .ok (.iload 4, 2) := by decide +kernel
theorem dL_law_45 : decode cL_law 45 = .ok (.aload_n 0, 1) := by decide +kernel
theorem dL_law_46 : decode cL_law 46 = .ok (.arraylength, 1) := by decide +kernel
theorem dL_law_47 : decode cL_law 47 = .ok (.bipush 6, 2) := by decide +kernel
theorem dL_law_49 : decode cL_law 49 = .ok (.isub, 1) := by decide +kernel
theorem dL_law_50 : decode cL_law 50 = .ok (.if_icmp .gt 1433, 3) := by decide +kernel
theorem dL_law_53 : decode cL_law 53 = .ok (.aload_n 0, 1) := by decide +kernel
theorem dL_law_54 : decode cL_law 54 = .ok (.iload 4, 2) := by decide +kernel
theorem dL_law_56 : decode cL_law 56 = .ok (.iaload, 1) := by decide +kernel
theorem dL_law_57 : decode cL_law 57 = .ok (.bipush 31, 2) := by decide +kernel
theorem dL_law_59 : decode cL_law 59 = .ok (.iand, 1) := by decide +kernel
theorem dL_law_60 : decode cL_law 60 = .ok (.tableswitch 1417 0 19 #[96, 192, 272, 340, 432, 556, 648, 716, 784, 852, 920, 988, 1068, 1136, 1180, 1224, 1268, 1304, 1317, 1361], 96) := by decide +kernel
theorem dL_law_156 : decode cL_law 156 = .ok (.aload_n 1, 1) := by decide +kernel
theorem dL_law_157 : decode cL_law 157 = .ok (.aload_n 0, 1) := by decide +kernel
theorem dL_law_158 : decode cL_law 158 = .ok (.iload 4, 2) := by decide +kernel
theorem dL_law_160 : decode cL_law 160 = .ok (.iconst 1, 1) := by decide +kernel
theorem dL_law_161 : decode cL_law 161 = .ok (.iadd, 1) := by decide +kernel
theorem dL_law_162 : decode cL_law 162 = .ok (.iaload, 1) := by decide +kernel
theorem dL_law_163 : decode cL_law 163 = .ok (.aload_n 0, 1) := by decide +kernel
theorem dL_law_164 : decode cL_law 164 = .ok (.iload 4, 2) := by decide +kernel
theorem dL_law_166 : decode cL_law 166 = .ok (.iconst 2, 1) := by decide +kernel
theorem dL_law_167 : decode cL_law 167 = .ok (.iadd, 1) := by decide +kernel
theorem dL_law_168 : decode cL_law 168 = .ok (.iaload, 1) := by decide +kernel
theorem dL_law_169 : decode cL_law 169 = .ok (.aload_n 0, 1) := by decide +kernel
theorem dL_law_170 : decode cL_law 170 = .ok (.iload 4, 2) := by decide +kernel
theorem dL_law_172 : decode cL_law 172 = .ok (.iconst 3, 1) := by decide +kernel
theorem dL_law_173 : decode cL_law 173 = .ok (.iadd, 1) := by decide +kernel
theorem dL_law_174 : decode cL_law 174 = .ok (.iaload, 1) := by decide +kernel
theorem dL_law_175 : decode cL_law 175 = .ok (.ifCond .eq 7, 3) := by decide +kernel
theorem dL_law_178 : decode cL_law 178 = .ok (.iconst 1, 1) := by decide +kernel
theorem dL_law_179 : decode cL_law 179 = .ok (.goto 4, 3) := by decide +kernel
theorem dL_law_182 : decode cL_law 182 = .ok (.iconst 0, 1) := by decide +kernel
theorem dL_law_183 : decode cL_law 183 = .ok (.aload_n 3, 1) := by decide +kernel
theorem dL_law_184 : decode cL_law 184 = .ok (.invokestatic 94, 3) := by decide +kernel
theorem dL_law_187 : decode cL_law 187 = .ok (.istore 5, 2) := by decide +kernel
theorem dL_law_189 : decode cL_law 189 = .ok (.aload_n 2, 1) := by decide +kernel
theorem dL_law_190 : decode cL_law 190 = .ok (.aload_n 0, 1) := by decide +kernel
theorem dL_law_191 : decode cL_law 191 = .ok (.iload 4, 2) := by decide +kernel
theorem dL_law_193 : decode cL_law 193 = .ok (.iconst 1, 1) := by decide +kernel
theorem dL_law_194 : decode cL_law 194 = .ok (.iadd, 1) := by decide +kernel
theorem dL_law_195 : decode cL_law 195 = .ok (.iaload, 1) := by decide +kernel
theorem dL_law_196 : decode cL_law 196 = .ok (.aload_n 0, 1) := by decide +kernel
theorem dL_law_197 : decode cL_law 197 = .ok (.iload 4, 2) := by decide +kernel
theorem dL_law_199 : decode cL_law 199 = .ok (.iconst 2, 1) := by decide +kernel
theorem dL_law_200 : decode cL_law 200 = .ok (.iadd, 1) := by decide +kernel
theorem dL_law_201 : decode cL_law 201 = .ok (.iaload, 1) := by decide +kernel
theorem dL_law_202 : decode cL_law 202 = .ok (.aload_n 0, 1) := by decide +kernel
theorem dL_law_203 : decode cL_law 203 = .ok (.iload 4, 2) := by decide +kernel
theorem dL_law_205 : decode cL_law 205 = .ok (.iconst 3, 1) := by decide +kernel
theorem dL_law_206 : decode cL_law 206 = .ok (.iadd, 1) := by decide +kernel
theorem dL_law_207 : decode cL_law 207 = .ok (.iaload, 1) := by decide +kernel
theorem dL_law_208 : decode cL_law 208 = .ok (.ifCond .eq 7, 3) := by decide +kernel
theorem dL_law_211 : decode cL_law 211 = .ok (.iconst 1, 1) := by decide +kernel
theorem dL_law_212 : decode cL_law 212 = .ok (.goto 4, 3) := by decide +kernel
theorem dL_law_215 : decode cL_law 215 = .ok (.iconst 0, 1) := by decide +kernel
theorem dL_law_216 : decode cL_law 216 = .ok (.invokevirtual 97, 3) := by decide +kernel
theorem dL_law_219 : decode cL_law 219 = .ok (.istore 6, 2) := by decide +kernel
theorem dL_law_221 : decode cL_law 221 = .ok (.aload_n 2, 1) := by decide +kernel
theorem dL_law_222 : decode cL_law 222 = .ok (.invokevirtual 98, 3) := by decide +kernel
theorem dL_law_225 : decode cL_law 225 = .ok (.iload 5, 2) := by decide +kernel
theorem dL_law_227 : decode cL_law 227 = .ok (.if_icmp .eq 5, 3) := by decide +kernel
theorem dL_law_230 : decode cL_law 230 = .ok (.iconst 0, 1) := by decide +kernel
theorem dL_law_231 : decode cL_law 231 = .ok (.ireturn, 1) := by decide +kernel
theorem dL_law_232 : decode cL_law 232 = .ok (.iload 5, 2) := by decide +kernel
theorem dL_law_234 : decode cL_law 234 = .ok (.ifCond .ne 15, 3) := by decide +kernel
theorem dL_law_237 : decode cL_law 237 = .ok (.aload_n 3, 1) := by decide +kernel
theorem dL_law_238 : decode cL_law 238 = .ok (.iconst 0, 1) := by decide +kernel
theorem dL_law_239 : decode cL_law 239 = .ok (.laload, 1) := by decide +kernel
theorem dL_law_240 : decode cL_law 240 = .ok (.iload 6, 2) := by decide +kernel
theorem dL_law_242 : decode cL_law 242 = .ok (.i2l, 1) := by decide +kernel
theorem dL_law_243 : decode cL_law 243 = .ok (.lcmp, 1) := by decide +kernel
theorem dL_law_244 : decode cL_law 244 = .ok (.ifCond .eq 5, 3) := by decide +kernel
theorem dL_law_247 : decode cL_law 247 = .ok (.iconst 0, 1) := by decide +kernel
theorem dL_law_248 : decode cL_law 248 = .ok (.ireturn, 1) := by decide +kernel
theorem dL_law_249 : decode cL_law 249 = .ok (.goto 1228, 3) := by decide +kernel
theorem dL_law_252 : decode cL_law 252 = .ok (.aload_n 1, 1) := by decide +kernel
theorem dL_law_253 : decode cL_law 253 = .ok (.aload_n 0, 1) := by decide +kernel
theorem dL_law_254 : decode cL_law 254 = .ok (.iload 4, 2) := by decide +kernel
theorem dL_law_256 : decode cL_law 256 = .ok (.iconst 1, 1) := by decide +kernel
theorem dL_law_257 : decode cL_law 257 = .ok (.iadd, 1) := by decide +kernel
theorem dL_law_258 : decode cL_law 258 = .ok (.iaload, 1) := by decide +kernel
theorem dL_law_259 : decode cL_law 259 = .ok (.aload_n 0, 1) := by decide +kernel
theorem dL_law_260 : decode cL_law 260 = .ok (.iload 4, 2) := by decide +kernel
theorem dL_law_262 : decode cL_law 262 = .ok (.iconst 2, 1) := by decide +kernel
theorem dL_law_263 : decode cL_law 263 = .ok (.iadd, 1) := by decide +kernel
theorem dL_law_264 : decode cL_law 264 = .ok (.iaload, 1) := by decide +kernel
theorem dL_law_265 : decode cL_law 265 = .ok (.aload_n 0, 1) := by decide +kernel
theorem dL_law_266 : decode cL_law 266 = .ok (.iload 4, 2) := by decide +kernel
theorem dL_law_268 : decode cL_law 268 = .ok (.iconst 3, 1) := by decide +kernel
theorem dL_law_269 : decode cL_law 269 = .ok (.iadd, 1) := by decide +kernel
theorem dL_law_270 : decode cL_law 270 = .ok (.iaload, 1) := by decide +kernel
theorem dL_law_271 : decode cL_law 271 = .ok (.aload_n 3, 1) := by decide +kernel
theorem dL_law_272 : decode cL_law 272 = .ok (.invokestatic 101, 3) := by decide +kernel
theorem dL_law_275 : decode cL_law 275 = .ok (.istore 5, 2) := by decide +kernel
theorem dL_law_277 : decode cL_law 277 = .ok (.aload_n 2, 1) := by decide +kernel
theorem dL_law_278 : decode cL_law 278 = .ok (.aload_n 0, 1) := by decide +kernel
theorem dL_law_279 : decode cL_law 279 = .ok (.iload 4, 2) := by decide +kernel
theorem dL_law_281 : decode cL_law 281 = .ok (.iconst 1, 1) := by decide +kernel
theorem dL_law_282 : decode cL_law 282 = .ok (.iadd, 1) := by decide +kernel
theorem dL_law_283 : decode cL_law 283 = .ok (.iaload, 1) := by decide +kernel
theorem dL_law_284 : decode cL_law 284 = .ok (.aload_n 0, 1) := by decide +kernel
theorem dL_law_285 : decode cL_law 285 = .ok (.iload 4, 2) := by decide +kernel
theorem dL_law_287 : decode cL_law 287 = .ok (.iconst 2, 1) := by decide +kernel
theorem dL_law_288 : decode cL_law 288 = .ok (.iadd, 1) := by decide +kernel
theorem dL_law_289 : decode cL_law 289 = .ok (.iaload, 1) := by decide +kernel
theorem dL_law_290 : decode cL_law 290 = .ok (.aload_n 0, 1) := by decide +kernel
theorem dL_law_291 : decode cL_law 291 = .ok (.iload 4, 2) := by decide +kernel
theorem dL_law_293 : decode cL_law 293 = .ok (.iconst 3, 1) := by decide +kernel
theorem dL_law_294 : decode cL_law 294 = .ok (.iadd, 1) := by decide +kernel
theorem dL_law_295 : decode cL_law 295 = .ok (.iaload, 1) := by decide +kernel
theorem dL_law_296 : decode cL_law 296 = .ok (.invokevirtual 104, 3) := by decide +kernel
theorem dL_law_299 : decode cL_law 299 = .ok (.istore 6, 2) := by decide +kernel
theorem dL_law_301 : decode cL_law 301 = .ok (.aload_n 2, 1) := by decide +kernel
theorem dL_law_302 : decode cL_law 302 = .ok (.invokevirtual 98, 3) := by decide +kernel
theorem dL_law_305 : decode cL_law 305 = .ok (.iload 5, 2) := by decide +kernel
theorem dL_law_307 : decode cL_law 307 = .ok (.if_icmp .eq 5, 3) := by decide +kernel
theorem dL_law_310 : decode cL_law 310 = .ok (.iconst 0, 1) := by decide +kernel
theorem dL_law_311 : decode cL_law 311 = .ok (.ireturn, 1) := by decide +kernel
theorem dL_law_312 : decode cL_law 312 = .ok (.iload 5, 2) := by decide +kernel
theorem dL_law_314 : decode cL_law 314 = .ok (.ifCond .ne 15, 3) := by decide +kernel
theorem dL_law_317 : decode cL_law 317 = .ok (.aload_n 3, 1) := by decide +kernel
theorem dL_law_318 : decode cL_law 318 = .ok (.iconst 0, 1) := by decide +kernel
theorem dL_law_319 : decode cL_law 319 = .ok (.laload, 1) := by decide +kernel
theorem dL_law_320 : decode cL_law 320 = .ok (.iload 6, 2) := by decide +kernel
theorem dL_law_322 : decode cL_law 322 = .ok (.i2l, 1) := by decide +kernel
theorem dL_law_323 : decode cL_law 323 = .ok (.lcmp, 1) := by decide +kernel
theorem dL_law_324 : decode cL_law 324 = .ok (.ifCond .eq 5, 3) := by decide +kernel
theorem dL_law_327 : decode cL_law 327 = .ok (.iconst 0, 1) := by decide +kernel
theorem dL_law_328 : decode cL_law 328 = .ok (.ireturn, 1) := by decide +kernel
theorem dL_law_329 : decode cL_law 329 = .ok (.goto 1148, 3) := by decide +kernel
theorem dL_law_332 : decode cL_law 332 = .ok (.aload_n 1, 1) := by decide +kernel
theorem dL_law_333 : decode cL_law 333 = .ok (.aload_n 0, 1) := by decide +kernel
theorem dL_law_334 : decode cL_law 334 = .ok (.iload 4, 2) := by decide +kernel
theorem dL_law_336 : decode cL_law 336 = .ok (.iconst 1, 1) := by decide +kernel
theorem dL_law_337 : decode cL_law 337 = .ok (.iadd, 1) := by decide +kernel
theorem dL_law_338 : decode cL_law 338 = .ok (.iaload, 1) := by decide +kernel
theorem dL_law_339 : decode cL_law 339 = .ok (.aload_n 0, 1) := by decide +kernel
theorem dL_law_340 : decode cL_law 340 = .ok (.iload 4, 2) := by decide +kernel
theorem dL_law_342 : decode cL_law 342 = .ok (.iconst 2, 1) := by decide +kernel
theorem dL_law_343 : decode cL_law 343 = .ok (.iadd, 1) := by decide +kernel
theorem dL_law_344 : decode cL_law 344 = .ok (.iaload, 1) := by decide +kernel
theorem dL_law_345 : decode cL_law 345 = .ok (.aload_n 3, 1) := by decide +kernel
theorem dL_law_346 : decode cL_law 346 = .ok (.invokestatic 105, 3) := by decide +kernel
theorem dL_law_349 : decode cL_law 349 = .ok (.istore 5, 2) := by decide +kernel
theorem dL_law_351 : decode cL_law 351 = .ok (.aload_n 2, 1) := by decide +kernel
theorem dL_law_352 : decode cL_law 352 = .ok (.aload_n 0, 1) := by decide +kernel
theorem dL_law_353 : decode cL_law 353 = .ok (.iload 4, 2) := by decide +kernel
theorem dL_law_355 : decode cL_law 355 = .ok (.iconst 1, 1) := by decide +kernel
theorem dL_law_356 : decode cL_law 356 = .ok (.iadd, 1) := by decide +kernel
theorem dL_law_357 : decode cL_law 357 = .ok (.iaload, 1) := by decide +kernel
theorem dL_law_358 : decode cL_law 358 = .ok (.aload_n 0, 1) := by decide +kernel
theorem dL_law_359 : decode cL_law 359 = .ok (.iload 4, 2) := by decide +kernel
theorem dL_law_361 : decode cL_law 361 = .ok (.iconst 2, 1) := by decide +kernel
theorem dL_law_362 : decode cL_law 362 = .ok (.iadd, 1) := by decide +kernel
theorem dL_law_363 : decode cL_law 363 = .ok (.iaload, 1) := by decide +kernel
theorem dL_law_364 : decode cL_law 364 = .ok (.invokevirtual 108, 3) := by decide +kernel
theorem dL_law_367 : decode cL_law 367 = .ok (.istore 6, 2) := by decide +kernel
theorem dL_law_369 : decode cL_law 369 = .ok (.aload_n 2, 1) := by decide +kernel
theorem dL_law_370 : decode cL_law 370 = .ok (.invokevirtual 98, 3) := by decide +kernel
theorem dL_law_373 : decode cL_law 373 = .ok (.iload 5, 2) := by decide +kernel
theorem dL_law_375 : decode cL_law 375 = .ok (.if_icmp .eq 5, 3) := by decide +kernel
theorem dL_law_378 : decode cL_law 378 = .ok (.iconst 0, 1) := by decide +kernel
theorem dL_law_379 : decode cL_law 379 = .ok (.ireturn, 1) := by decide +kernel
theorem dL_law_380 : decode cL_law 380 = .ok (.iload 5, 2) := by decide +kernel
theorem dL_law_382 : decode cL_law 382 = .ok (.ifCond .ne 15, 3) := by decide +kernel
theorem dL_law_385 : decode cL_law 385 = .ok (.aload_n 3, 1) := by decide +kernel
theorem dL_law_386 : decode cL_law 386 = .ok (.iconst 0, 1) := by decide +kernel
theorem dL_law_387 : decode cL_law 387 = .ok (.laload, 1) := by decide +kernel
theorem dL_law_388 : decode cL_law 388 = .ok (.iload 6, 2) := by decide +kernel
theorem dL_law_390 : decode cL_law 390 = .ok (.i2l, 1) := by decide +kernel
theorem dL_law_391 : decode cL_law 391 = .ok (.lcmp, 1) := by decide +kernel
theorem dL_law_392 : decode cL_law 392 = .ok (.ifCond .eq 5, 3) := by decide +kernel
theorem dL_law_395 : decode cL_law 395 = .ok (.iconst 0, 1) := by decide +kernel
theorem dL_law_396 : decode cL_law 396 = .ok (.ireturn, 1) := by decide +kernel
theorem dL_law_397 : decode cL_law 397 = .ok (.goto 1080, 3) := by decide +kernel
theorem dL_law_400 : decode cL_law 400 = .ok (.aload_n 1, 1) := by decide +kernel
theorem dL_law_401 : decode cL_law 401 = .ok (.aload_n 0, 1) := by decide +kernel
theorem dL_law_402 : decode cL_law 402 = .ok (.iload 4, 2) := by decide +kernel
theorem dL_law_404 : decode cL_law 404 = .ok (.iconst 1, 1) := by decide +kernel
theorem dL_law_405 : decode cL_law 405 = .ok (.iadd, 1) := by decide +kernel
theorem dL_law_406 : decode cL_law 406 = .ok (.iaload, 1) := by decide +kernel
theorem dL_law_407 : decode cL_law 407 = .ok (.aload_n 0, 1) := by decide +kernel
theorem dL_law_408 : decode cL_law 408 = .ok (.iload 4, 2) := by decide +kernel
theorem dL_law_410 : decode cL_law 410 = .ok (.iconst 2, 1) := by decide +kernel
theorem dL_law_411 : decode cL_law 411 = .ok (.iadd, 1) := by decide +kernel
theorem dL_law_412 : decode cL_law 412 = .ok (.iaload, 1) := by decide +kernel
theorem dL_law_413 : decode cL_law 413 = .ok (.aload_n 0, 1) := by decide +kernel
theorem dL_law_414 : decode cL_law 414 = .ok (.iload 4, 2) := by decide +kernel
theorem dL_law_416 : decode cL_law 416 = .ok (.iconst 3, 1) := by decide +kernel
theorem dL_law_417 : decode cL_law 417 = .ok (.iadd, 1) := by decide +kernel
theorem dL_law_418 : decode cL_law 418 = .ok (.iaload, 1) := by decide +kernel
theorem dL_law_419 : decode cL_law 419 = .ok (.aload_n 0, 1) := by decide +kernel
theorem dL_law_420 : decode cL_law 420 = .ok (.iload 4, 2) := by decide +kernel
theorem dL_law_422 : decode cL_law 422 = .ok (.iconst 4, 1) := by decide +kernel
theorem dL_law_423 : decode cL_law 423 = .ok (.iadd, 1) := by decide +kernel
theorem dL_law_424 : decode cL_law 424 = .ok (.iaload, 1) := by decide +kernel
theorem dL_law_425 : decode cL_law 425 = .ok (.aload_n 3, 1) := by decide +kernel
theorem dL_law_426 : decode cL_law 426 = .ok (.invokestatic 109, 3) := by decide +kernel
theorem dL_law_429 : decode cL_law 429 = .ok (.istore 5, 2) := by decide +kernel
theorem dL_law_431 : decode cL_law 431 = .ok (.aload_n 2, 1) := by decide +kernel
theorem dL_law_432 : decode cL_law 432 = .ok (.aload_n 0, 1) := by decide +kernel
theorem dL_law_433 : decode cL_law 433 = .ok (.iload 4, 2) := by decide +kernel
theorem dL_law_435 : decode cL_law 435 = .ok (.iconst 1, 1) := by decide +kernel
theorem dL_law_436 : decode cL_law 436 = .ok (.iadd, 1) := by decide +kernel
theorem dL_law_437 : decode cL_law 437 = .ok (.iaload, 1) := by decide +kernel
theorem dL_law_438 : decode cL_law 438 = .ok (.aload_n 0, 1) := by decide +kernel
theorem dL_law_439 : decode cL_law 439 = .ok (.iload 4, 2) := by decide +kernel
theorem dL_law_441 : decode cL_law 441 = .ok (.iconst 2, 1) := by decide +kernel
theorem dL_law_442 : decode cL_law 442 = .ok (.iadd, 1) := by decide +kernel
theorem dL_law_443 : decode cL_law 443 = .ok (.iaload, 1) := by decide +kernel
theorem dL_law_444 : decode cL_law 444 = .ok (.aload_n 0, 1) := by decide +kernel
theorem dL_law_445 : decode cL_law 445 = .ok (.iload 4, 2) := by decide +kernel
theorem dL_law_447 : decode cL_law 447 = .ok (.iconst 3, 1) := by decide +kernel
theorem dL_law_448 : decode cL_law 448 = .ok (.iadd, 1) := by decide +kernel
theorem dL_law_449 : decode cL_law 449 = .ok (.iaload, 1) := by decide +kernel
theorem dL_law_450 : decode cL_law 450 = .ok (.aload_n 0, 1) := by decide +kernel
theorem dL_law_451 : decode cL_law 451 = .ok (.iload 4, 2) := by decide +kernel
theorem dL_law_453 : decode cL_law 453 = .ok (.iconst 4, 1) := by decide +kernel
theorem dL_law_454 : decode cL_law 454 = .ok (.iadd, 1) := by decide +kernel
theorem dL_law_455 : decode cL_law 455 = .ok (.iaload, 1) := by decide +kernel
theorem dL_law_456 : decode cL_law 456 = .ok (.invokevirtual 112, 3) := by decide +kernel
theorem dL_law_459 : decode cL_law 459 = .ok (.istore 6, 2) := by decide +kernel
theorem dL_law_461 : decode cL_law 461 = .ok (.aload_n 2, 1) := by decide +kernel
theorem dL_law_462 : decode cL_law 462 = .ok (.invokevirtual 98, 3) := by decide +kernel
theorem dL_law_465 : decode cL_law 465 = .ok (.iload 5, 2) := by decide +kernel
theorem dL_law_467 : decode cL_law 467 = .ok (.if_icmp .eq 5, 3) := by decide +kernel
theorem dL_law_470 : decode cL_law 470 = .ok (.iconst 0, 1) := by decide +kernel
theorem dL_law_471 : decode cL_law 471 = .ok (.ireturn, 1) := by decide +kernel
theorem dL_law_472 : decode cL_law 472 = .ok (.iload 5, 2) := by decide +kernel
theorem dL_law_474 : decode cL_law 474 = .ok (.ifCond .ne 15, 3) := by decide +kernel
theorem dL_law_477 : decode cL_law 477 = .ok (.aload_n 3, 1) := by decide +kernel
theorem dL_law_478 : decode cL_law 478 = .ok (.iconst 0, 1) := by decide +kernel
theorem dL_law_479 : decode cL_law 479 = .ok (.laload, 1) := by decide +kernel
theorem dL_law_480 : decode cL_law 480 = .ok (.iload 6, 2) := by decide +kernel
theorem dL_law_482 : decode cL_law 482 = .ok (.i2l, 1) := by decide +kernel
theorem dL_law_483 : decode cL_law 483 = .ok (.lcmp, 1) := by decide +kernel
theorem dL_law_484 : decode cL_law 484 = .ok (.ifCond .eq 5, 3) := by decide +kernel
theorem dL_law_487 : decode cL_law 487 = .ok (.iconst 0, 1) := by decide +kernel
theorem dL_law_488 : decode cL_law 488 = .ok (.ireturn, 1) := by decide +kernel
theorem dL_law_489 : decode cL_law 489 = .ok (.goto 988, 3) := by decide +kernel
theorem dL_law_492 : decode cL_law 492 = .ok (.aload_n 1, 1) := by decide +kernel
theorem dL_law_493 : decode cL_law 493 = .ok (.aload_n 0, 1) := by decide +kernel
theorem dL_law_494 : decode cL_law 494 = .ok (.iload 4, 2) := by decide +kernel
theorem dL_law_496 : decode cL_law 496 = .ok (.iconst 1, 1) := by decide +kernel
theorem dL_law_497 : decode cL_law 497 = .ok (.iadd, 1) := by decide +kernel
theorem dL_law_498 : decode cL_law 498 = .ok (.iaload, 1) := by decide +kernel
theorem dL_law_499 : decode cL_law 499 = .ok (.aload_n 0, 1) := by decide +kernel
theorem dL_law_500 : decode cL_law 500 = .ok (.iload 4, 2) := by decide +kernel
theorem dL_law_502 : decode cL_law 502 = .ok (.iconst 2, 1) := by decide +kernel
theorem dL_law_503 : decode cL_law 503 = .ok (.iadd, 1) := by decide +kernel
theorem dL_law_504 : decode cL_law 504 = .ok (.iaload, 1) := by decide +kernel
theorem dL_law_505 : decode cL_law 505 = .ok (.aload_n 0, 1) := by decide +kernel
theorem dL_law_506 : decode cL_law 506 = .ok (.iload 4, 2) := by decide +kernel
theorem dL_law_508 : decode cL_law 508 = .ok (.iconst 3, 1) := by decide +kernel
theorem dL_law_509 : decode cL_law 509 = .ok (.iadd, 1) := by decide +kernel
theorem dL_law_510 : decode cL_law 510 = .ok (.iaload, 1) := by decide +kernel
theorem dL_law_511 : decode cL_law 511 = .ok (.i2l, 1) := by decide +kernel
theorem dL_law_512 : decode cL_law 512 = .ok (.bipush 32, 2) := by decide +kernel
theorem dL_law_514 : decode cL_law 514 = .ok (.lshl, 1) := by decide +kernel
theorem dL_law_515 : decode cL_law 515 = .ok (.aload_n 0, 1) := by decide +kernel
theorem dL_law_516 : decode cL_law 516 = .ok (.iload 4, 2) := by decide +kernel
theorem dL_law_518 : decode cL_law 518 = .ok (.iconst 4, 1) := by decide +kernel
theorem dL_law_519 : decode cL_law 519 = .ok (.iadd, 1) := by decide +kernel
theorem dL_law_520 : decode cL_law 520 = .ok (.iaload, 1) := by decide +kernel
theorem dL_law_521 : decode cL_law 521 = .ok (.i2l, 1) := by decide +kernel
theorem dL_law_522 : decode cL_law 522 = .ok (.ldc2_w 113, 3) := by decide +kernel
theorem dL_law_525 : decode cL_law 525 = .ok (.land, 1) := by decide +kernel
theorem dL_law_526 : decode cL_law 526 = .ok (.lor, 1) := by decide +kernel
theorem dL_law_527 : decode cL_law 527 = .ok (.aload_n 0, 1) := by decide +kernel
theorem dL_law_528 : decode cL_law 528 = .ok (.iload 4, 2) := by decide +kernel
theorem dL_law_530 : decode cL_law 530 = .ok (.iconst 5, 1) := by decide +kernel
theorem dL_law_531 : decode cL_law 531 = .ok (.iadd, 1) := by decide +kernel
theorem dL_law_532 : decode cL_law 532 = .ok (.iaload, 1) := by decide +kernel
theorem dL_law_533 : decode cL_law 533 = .ok (.aload_n 3, 1) := by decide +kernel
theorem dL_law_534 : decode cL_law 534 = .ok (.invokestatic 115, 3) := by decide +kernel
theorem dL_law_537 : decode cL_law 537 = .ok (.istore 5, 2) := by decide +kernel
theorem dL_law_539 : decode cL_law 539 = .ok (.aload_n 2, 1) := by decide +kernel
theorem dL_law_540 : decode cL_law 540 = .ok (.aload_n 0, 1) := by decide +kernel
theorem dL_law_541 : decode cL_law 541 = .ok (.iload 4, 2) := by decide +kernel
theorem dL_law_543 : decode cL_law 543 = .ok (.iconst 1, 1) := by decide +kernel
theorem dL_law_544 : decode cL_law 544 = .ok (.iadd, 1) := by decide +kernel
theorem dL_law_545 : decode cL_law 545 = .ok (.iaload, 1) := by decide +kernel
theorem dL_law_546 : decode cL_law 546 = .ok (.aload_n 0, 1) := by decide +kernel
theorem dL_law_547 : decode cL_law 547 = .ok (.iload 4, 2) := by decide +kernel
theorem dL_law_549 : decode cL_law 549 = .ok (.iconst 2, 1) := by decide +kernel
theorem dL_law_550 : decode cL_law 550 = .ok (.iadd, 1) := by decide +kernel
theorem dL_law_551 : decode cL_law 551 = .ok (.iaload, 1) := by decide +kernel
theorem dL_law_552 : decode cL_law 552 = .ok (.aload_n 0, 1) := by decide +kernel
theorem dL_law_553 : decode cL_law 553 = .ok (.iload 4, 2) := by decide +kernel
theorem dL_law_555 : decode cL_law 555 = .ok (.iconst 3, 1) := by decide +kernel
theorem dL_law_556 : decode cL_law 556 = .ok (.iadd, 1) := by decide +kernel
theorem dL_law_557 : decode cL_law 557 = .ok (.iaload, 1) := by decide +kernel
theorem dL_law_558 : decode cL_law 558 = .ok (.i2l, 1) := by decide +kernel
theorem dL_law_559 : decode cL_law 559 = .ok (.bipush 32, 2) := by decide +kernel
theorem dL_law_561 : decode cL_law 561 = .ok (.lshl, 1) := by decide +kernel
theorem dL_law_562 : decode cL_law 562 = .ok (.aload_n 0, 1) := by decide +kernel
theorem dL_law_563 : decode cL_law 563 = .ok (.iload 4, 2) := by decide +kernel
theorem dL_law_565 : decode cL_law 565 = .ok (.iconst 4, 1) := by decide +kernel
theorem dL_law_566 : decode cL_law 566 = .ok (.iadd, 1) := by decide +kernel
theorem dL_law_567 : decode cL_law 567 = .ok (.iaload, 1) := by decide +kernel
theorem dL_law_568 : decode cL_law 568 = .ok (.i2l, 1) := by decide +kernel
theorem dL_law_569 : decode cL_law 569 = .ok (.ldc2_w 113, 3) := by decide +kernel
theorem dL_law_572 : decode cL_law 572 = .ok (.land, 1) := by decide +kernel
theorem dL_law_573 : decode cL_law 573 = .ok (.lor, 1) := by decide +kernel
theorem dL_law_574 : decode cL_law 574 = .ok (.aload_n 0, 1) := by decide +kernel
theorem dL_law_575 : decode cL_law 575 = .ok (.iload 4, 2) := by decide +kernel
theorem dL_law_577 : decode cL_law 577 = .ok (.iconst 5, 1) := by decide +kernel
theorem dL_law_578 : decode cL_law 578 = .ok (.iadd, 1) := by decide +kernel
theorem dL_law_579 : decode cL_law 579 = .ok (.iaload, 1) := by decide +kernel
theorem dL_law_580 : decode cL_law 580 = .ok (.invokevirtual 118, 3) := by decide +kernel
theorem dL_law_583 : decode cL_law 583 = .ok (.istore 6, 2) := by decide +kernel
theorem dL_law_585 : decode cL_law 585 = .ok (.aload_n 2, 1) := by decide +kernel
theorem dL_law_586 : decode cL_law 586 = .ok (.invokevirtual 98, 3) := by decide +kernel
theorem dL_law_589 : decode cL_law 589 = .ok (.iload 5, 2) := by decide +kernel
theorem dL_law_591 : decode cL_law 591 = .ok (.if_icmp .eq 5, 3) := by decide +kernel
theorem dL_law_594 : decode cL_law 594 = .ok (.iconst 0, 1) := by decide +kernel
theorem dL_law_595 : decode cL_law 595 = .ok (.ireturn, 1) := by decide +kernel
theorem dL_law_596 : decode cL_law 596 = .ok (.iload 5, 2) := by decide +kernel
theorem dL_law_598 : decode cL_law 598 = .ok (.ifCond .ne 15, 3) := by decide +kernel
theorem dL_law_601 : decode cL_law 601 = .ok (.aload_n 3, 1) := by decide +kernel
theorem dL_law_602 : decode cL_law 602 = .ok (.iconst 0, 1) := by decide +kernel
theorem dL_law_603 : decode cL_law 603 = .ok (.laload, 1) := by decide +kernel
theorem dL_law_604 : decode cL_law 604 = .ok (.iload 6, 2) := by decide +kernel
theorem dL_law_606 : decode cL_law 606 = .ok (.i2l, 1) := by decide +kernel
theorem dL_law_607 : decode cL_law 607 = .ok (.lcmp, 1) := by decide +kernel
theorem dL_law_608 : decode cL_law 608 = .ok (.ifCond .eq 5, 3) := by decide +kernel
theorem dL_law_611 : decode cL_law 611 = .ok (.iconst 0, 1) := by decide +kernel
theorem dL_law_612 : decode cL_law 612 = .ok (.ireturn, 1) := by decide +kernel
theorem dL_law_613 : decode cL_law 613 = .ok (.goto 864, 3) := by decide +kernel
theorem dL_law_616 : decode cL_law 616 = .ok (.aload_n 1, 1) := by decide +kernel
theorem dL_law_617 : decode cL_law 617 = .ok (.aload_n 0, 1) := by decide +kernel
theorem dL_law_618 : decode cL_law 618 = .ok (.iload 4, 2) := by decide +kernel
theorem dL_law_620 : decode cL_law 620 = .ok (.iconst 1, 1) := by decide +kernel
theorem dL_law_621 : decode cL_law 621 = .ok (.iadd, 1) := by decide +kernel
theorem dL_law_622 : decode cL_law 622 = .ok (.iaload, 1) := by decide +kernel
theorem dL_law_623 : decode cL_law 623 = .ok (.aload_n 0, 1) := by decide +kernel
theorem dL_law_624 : decode cL_law 624 = .ok (.iload 4, 2) := by decide +kernel
theorem dL_law_626 : decode cL_law 626 = .ok (.iconst 2, 1) := by decide +kernel
theorem dL_law_627 : decode cL_law 627 = .ok (.iadd, 1) := by decide +kernel
theorem dL_law_628 : decode cL_law 628 = .ok (.iaload, 1) := by decide +kernel
theorem dL_law_629 : decode cL_law 629 = .ok (.aload_n 0, 1) := by decide +kernel
theorem dL_law_630 : decode cL_law 630 = .ok (.iload 4, 2) := by decide +kernel
theorem dL_law_632 : decode cL_law 632 = .ok (.iconst 3, 1) := by decide +kernel
theorem dL_law_633 : decode cL_law 633 = .ok (.iadd, 1) := by decide +kernel
theorem dL_law_634 : decode cL_law 634 = .ok (.iaload, 1) := by decide +kernel
theorem dL_law_635 : decode cL_law 635 = .ok (.aload_n 0, 1) := by decide +kernel
theorem dL_law_636 : decode cL_law 636 = .ok (.iload 4, 2) := by decide +kernel
theorem dL_law_638 : decode cL_law 638 = .ok (.iconst 4, 1) := by decide +kernel
theorem dL_law_639 : decode cL_law 639 = .ok (.iadd, 1) := by decide +kernel
theorem dL_law_640 : decode cL_law 640 = .ok (.iaload, 1) := by decide +kernel
theorem dL_law_641 : decode cL_law 641 = .ok (.aload_n 3, 1) := by decide +kernel
theorem dL_law_642 : decode cL_law 642 = .ok (.invokestatic 119, 3) := by decide +kernel
theorem dL_law_645 : decode cL_law 645 = .ok (.istore 5, 2) := by decide +kernel
theorem dL_law_647 : decode cL_law 647 = .ok (.aload_n 2, 1) := by decide +kernel
theorem dL_law_648 : decode cL_law 648 = .ok (.aload_n 0, 1) := by decide +kernel
theorem dL_law_649 : decode cL_law 649 = .ok (.iload 4, 2) := by decide +kernel
theorem dL_law_651 : decode cL_law 651 = .ok (.iconst 1, 1) := by decide +kernel
theorem dL_law_652 : decode cL_law 652 = .ok (.iadd, 1) := by decide +kernel
theorem dL_law_653 : decode cL_law 653 = .ok (.iaload, 1) := by decide +kernel
theorem dL_law_654 : decode cL_law 654 = .ok (.aload_n 0, 1) := by decide +kernel
theorem dL_law_655 : decode cL_law 655 = .ok (.iload 4, 2) := by decide +kernel
theorem dL_law_657 : decode cL_law 657 = .ok (.iconst 2, 1) := by decide +kernel
theorem dL_law_658 : decode cL_law 658 = .ok (.iadd, 1) := by decide +kernel
theorem dL_law_659 : decode cL_law 659 = .ok (.iaload, 1) := by decide +kernel
theorem dL_law_660 : decode cL_law 660 = .ok (.aload_n 0, 1) := by decide +kernel
theorem dL_law_661 : decode cL_law 661 = .ok (.iload 4, 2) := by decide +kernel
theorem dL_law_663 : decode cL_law 663 = .ok (.iconst 3, 1) := by decide +kernel
theorem dL_law_664 : decode cL_law 664 = .ok (.iadd, 1) := by decide +kernel
theorem dL_law_665 : decode cL_law 665 = .ok (.iaload, 1) := by decide +kernel
theorem dL_law_666 : decode cL_law 666 = .ok (.aload_n 0, 1) := by decide +kernel
theorem dL_law_667 : decode cL_law 667 = .ok (.iload 4, 2) := by decide +kernel
theorem dL_law_669 : decode cL_law 669 = .ok (.iconst 4, 1) := by decide +kernel
theorem dL_law_670 : decode cL_law 670 = .ok (.iadd, 1) := by decide +kernel
theorem dL_law_671 : decode cL_law 671 = .ok (.iaload, 1) := by decide +kernel
theorem dL_law_672 : decode cL_law 672 = .ok (.invokevirtual 121, 3) := by decide +kernel
theorem dL_law_675 : decode cL_law 675 = .ok (.istore 6, 2) := by decide +kernel
theorem dL_law_677 : decode cL_law 677 = .ok (.aload_n 2, 1) := by decide +kernel
theorem dL_law_678 : decode cL_law 678 = .ok (.invokevirtual 98, 3) := by decide +kernel
theorem dL_law_681 : decode cL_law 681 = .ok (.iload 5, 2) := by decide +kernel
theorem dL_law_683 : decode cL_law 683 = .ok (.if_icmp .eq 5, 3) := by decide +kernel
theorem dL_law_686 : decode cL_law 686 = .ok (.iconst 0, 1) := by decide +kernel
theorem dL_law_687 : decode cL_law 687 = .ok (.ireturn, 1) := by decide +kernel
theorem dL_law_688 : decode cL_law 688 = .ok (.iload 5, 2) := by decide +kernel
theorem dL_law_690 : decode cL_law 690 = .ok (.ifCond .ne 15, 3) := by decide +kernel
theorem dL_law_693 : decode cL_law 693 = .ok (.aload_n 3, 1) := by decide +kernel
theorem dL_law_694 : decode cL_law 694 = .ok (.iconst 0, 1) := by decide +kernel
theorem dL_law_695 : decode cL_law 695 = .ok (.laload, 1) := by decide +kernel
theorem dL_law_696 : decode cL_law 696 = .ok (.iload 6, 2) := by decide +kernel
theorem dL_law_698 : decode cL_law 698 = .ok (.i2l, 1) := by decide +kernel
theorem dL_law_699 : decode cL_law 699 = .ok (.lcmp, 1) := by decide +kernel
theorem dL_law_700 : decode cL_law 700 = .ok (.ifCond .eq 5, 3) := by decide +kernel
theorem dL_law_703 : decode cL_law 703 = .ok (.iconst 0, 1) := by decide +kernel
theorem dL_law_704 : decode cL_law 704 = .ok (.ireturn, 1) := by decide +kernel
theorem dL_law_705 : decode cL_law 705 = .ok (.goto 772, 3) := by decide +kernel
theorem dL_law_708 : decode cL_law 708 = .ok (.aload_n 1, 1) := by decide +kernel
theorem dL_law_709 : decode cL_law 709 = .ok (.aload_n 0, 1) := by decide +kernel
theorem dL_law_710 : decode cL_law 710 = .ok (.iload 4, 2) := by decide +kernel
theorem dL_law_712 : decode cL_law 712 = .ok (.iconst 1, 1) := by decide +kernel
theorem dL_law_713 : decode cL_law 713 = .ok (.iadd, 1) := by decide +kernel
theorem dL_law_714 : decode cL_law 714 = .ok (.iaload, 1) := by decide +kernel
theorem dL_law_715 : decode cL_law 715 = .ok (.aload_n 0, 1) := by decide +kernel
theorem dL_law_716 : decode cL_law 716 = .ok (.iload 4, 2) := by decide +kernel
theorem dL_law_718 : decode cL_law 718 = .ok (.iconst 2, 1) := by decide +kernel
theorem dL_law_719 : decode cL_law 719 = .ok (.iadd, 1) := by decide +kernel
theorem dL_law_720 : decode cL_law 720 = .ok (.iaload, 1) := by decide +kernel
theorem dL_law_721 : decode cL_law 721 = .ok (.aload_n 3, 1) := by decide +kernel
theorem dL_law_722 : decode cL_law 722 = .ok (.invokestatic 122, 3) := by decide +kernel
theorem dL_law_725 : decode cL_law 725 = .ok (.istore 5, 2) := by decide +kernel
theorem dL_law_727 : decode cL_law 727 = .ok (.aload_n 2, 1) := by decide +kernel
theorem dL_law_728 : decode cL_law 728 = .ok (.aload_n 0, 1) := by decide +kernel
theorem dL_law_729 : decode cL_law 729 = .ok (.iload 4, 2) := by decide +kernel
theorem dL_law_731 : decode cL_law 731 = .ok (.iconst 1, 1) := by decide +kernel
theorem dL_law_732 : decode cL_law 732 = .ok (.iadd, 1) := by decide +kernel
theorem dL_law_733 : decode cL_law 733 = .ok (.iaload, 1) := by decide +kernel
theorem dL_law_734 : decode cL_law 734 = .ok (.aload_n 0, 1) := by decide +kernel
theorem dL_law_735 : decode cL_law 735 = .ok (.iload 4, 2) := by decide +kernel
theorem dL_law_737 : decode cL_law 737 = .ok (.iconst 2, 1) := by decide +kernel
theorem dL_law_738 : decode cL_law 738 = .ok (.iadd, 1) := by decide +kernel
theorem dL_law_739 : decode cL_law 739 = .ok (.iaload, 1) := by decide +kernel
theorem dL_law_740 : decode cL_law 740 = .ok (.invokevirtual 124, 3) := by decide +kernel
theorem dL_law_743 : decode cL_law 743 = .ok (.istore 6, 2) := by decide +kernel
theorem dL_law_745 : decode cL_law 745 = .ok (.aload_n 2, 1) := by decide +kernel
theorem dL_law_746 : decode cL_law 746 = .ok (.invokevirtual 98, 3) := by decide +kernel
theorem dL_law_749 : decode cL_law 749 = .ok (.iload 5, 2) := by decide +kernel
theorem dL_law_751 : decode cL_law 751 = .ok (.if_icmp .eq 5, 3) := by decide +kernel
theorem dL_law_754 : decode cL_law 754 = .ok (.iconst 0, 1) := by decide +kernel
theorem dL_law_755 : decode cL_law 755 = .ok (.ireturn, 1) := by decide +kernel
theorem dL_law_756 : decode cL_law 756 = .ok (.iload 5, 2) := by decide +kernel
theorem dL_law_758 : decode cL_law 758 = .ok (.ifCond .ne 15, 3) := by decide +kernel
theorem dL_law_761 : decode cL_law 761 = .ok (.aload_n 3, 1) := by decide +kernel
theorem dL_law_762 : decode cL_law 762 = .ok (.iconst 0, 1) := by decide +kernel
theorem dL_law_763 : decode cL_law 763 = .ok (.laload, 1) := by decide +kernel
theorem dL_law_764 : decode cL_law 764 = .ok (.iload 6, 2) := by decide +kernel
theorem dL_law_766 : decode cL_law 766 = .ok (.i2l, 1) := by decide +kernel
theorem dL_law_767 : decode cL_law 767 = .ok (.lcmp, 1) := by decide +kernel
theorem dL_law_768 : decode cL_law 768 = .ok (.ifCond .eq 5, 3) := by decide +kernel
theorem dL_law_771 : decode cL_law 771 = .ok (.iconst 0, 1) := by decide +kernel
theorem dL_law_772 : decode cL_law 772 = .ok (.ireturn, 1) := by decide +kernel
theorem dL_law_773 : decode cL_law 773 = .ok (.goto 704, 3) := by decide +kernel
theorem dL_law_776 : decode cL_law 776 = .ok (.aload_n 1, 1) := by decide +kernel
theorem dL_law_777 : decode cL_law 777 = .ok (.aload_n 0, 1) := by decide +kernel
theorem dL_law_778 : decode cL_law 778 = .ok (.iload 4, 2) := by decide +kernel
theorem dL_law_780 : decode cL_law 780 = .ok (.iconst 1, 1) := by decide +kernel
theorem dL_law_781 : decode cL_law 781 = .ok (.iadd, 1) := by decide +kernel
theorem dL_law_782 : decode cL_law 782 = .ok (.iaload, 1) := by decide +kernel
theorem dL_law_783 : decode cL_law 783 = .ok (.aload_n 0, 1) := by decide +kernel
theorem dL_law_784 : decode cL_law 784 = .ok (.iload 4, 2) := by decide +kernel
theorem dL_law_786 : decode cL_law 786 = .ok (.iconst 2, 1) := by decide +kernel
theorem dL_law_787 : decode cL_law 787 = .ok (.iadd, 1) := by decide +kernel
theorem dL_law_788 : decode cL_law 788 = .ok (.iaload, 1) := by decide +kernel
theorem dL_law_789 : decode cL_law 789 = .ok (.aload_n 3, 1) := by decide +kernel
theorem dL_law_790 : decode cL_law 790 = .ok (.invokestatic 125, 3) := by decide +kernel
theorem dL_law_793 : decode cL_law 793 = .ok (.istore 5, 2) := by decide +kernel
theorem dL_law_795 : decode cL_law 795 = .ok (.aload_n 2, 1) := by decide +kernel
theorem dL_law_796 : decode cL_law 796 = .ok (.aload_n 0, 1) := by decide +kernel
theorem dL_law_797 : decode cL_law 797 = .ok (.iload 4, 2) := by decide +kernel
theorem dL_law_799 : decode cL_law 799 = .ok (.iconst 1, 1) := by decide +kernel
theorem dL_law_800 : decode cL_law 800 = .ok (.iadd, 1) := by decide +kernel
theorem dL_law_801 : decode cL_law 801 = .ok (.iaload, 1) := by decide +kernel
theorem dL_law_802 : decode cL_law 802 = .ok (.aload_n 0, 1) := by decide +kernel
theorem dL_law_803 : decode cL_law 803 = .ok (.iload 4, 2) := by decide +kernel
theorem dL_law_805 : decode cL_law 805 = .ok (.iconst 2, 1) := by decide +kernel
theorem dL_law_806 : decode cL_law 806 = .ok (.iadd, 1) := by decide +kernel
theorem dL_law_807 : decode cL_law 807 = .ok (.iaload, 1) := by decide +kernel
theorem dL_law_808 : decode cL_law 808 = .ok (.invokevirtual 127, 3) := by decide +kernel
theorem dL_law_811 : decode cL_law 811 = .ok (.istore 6, 2) := by decide +kernel
theorem dL_law_813 : decode cL_law 813 = .ok (.aload_n 2, 1) := by decide +kernel
theorem dL_law_814 : decode cL_law 814 = .ok (.invokevirtual 98, 3) := by decide +kernel
theorem dL_law_817 : decode cL_law 817 = .ok (.iload 5, 2) := by decide +kernel
theorem dL_law_819 : decode cL_law 819 = .ok (.if_icmp .eq 5, 3) := by decide +kernel
theorem dL_law_822 : decode cL_law 822 = .ok (.iconst 0, 1) := by decide +kernel
theorem dL_law_823 : decode cL_law 823 = .ok (.ireturn, 1) := by decide +kernel
theorem dL_law_824 : decode cL_law 824 = .ok (.iload 5, 2) := by decide +kernel
theorem dL_law_826 : decode cL_law 826 = .ok (.ifCond .ne 15, 3) := by decide +kernel
theorem dL_law_829 : decode cL_law 829 = .ok (.aload_n 3, 1) := by decide +kernel
theorem dL_law_830 : decode cL_law 830 = .ok (.iconst 0, 1) := by decide +kernel
theorem dL_law_831 : decode cL_law 831 = .ok (.laload, 1) := by decide +kernel
theorem dL_law_832 : decode cL_law 832 = .ok (.iload 6, 2) := by decide +kernel
theorem dL_law_834 : decode cL_law 834 = .ok (.i2l, 1) := by decide +kernel
theorem dL_law_835 : decode cL_law 835 = .ok (.lcmp, 1) := by decide +kernel
theorem dL_law_836 : decode cL_law 836 = .ok (.ifCond .eq 5, 3) := by decide +kernel
theorem dL_law_839 : decode cL_law 839 = .ok (.iconst 0, 1) := by decide +kernel
theorem dL_law_840 : decode cL_law 840 = .ok (.ireturn, 1) := by decide +kernel
theorem dL_law_841 : decode cL_law 841 = .ok (.goto 636, 3) := by decide +kernel
theorem dL_law_844 : decode cL_law 844 = .ok (.aload_n 1, 1) := by decide +kernel
theorem dL_law_845 : decode cL_law 845 = .ok (.aload_n 0, 1) := by decide +kernel
theorem dL_law_846 : decode cL_law 846 = .ok (.iload 4, 2) := by decide +kernel
theorem dL_law_848 : decode cL_law 848 = .ok (.iconst 1, 1) := by decide +kernel
theorem dL_law_849 : decode cL_law 849 = .ok (.iadd, 1) := by decide +kernel
theorem dL_law_850 : decode cL_law 850 = .ok (.iaload, 1) := by decide +kernel
theorem dL_law_851 : decode cL_law 851 = .ok (.aload_n 0, 1) := by decide +kernel
theorem dL_law_852 : decode cL_law 852 = .ok (.iload 4, 2) := by decide +kernel
theorem dL_law_854 : decode cL_law 854 = .ok (.iconst 2, 1) := by decide +kernel
theorem dL_law_855 : decode cL_law 855 = .ok (.iadd, 1) := by decide +kernel
theorem dL_law_856 : decode cL_law 856 = .ok (.iaload, 1) := by decide +kernel
theorem dL_law_857 : decode cL_law 857 = .ok (.aload_n 3, 1) := by decide +kernel
theorem dL_law_858 : decode cL_law 858 = .ok (.invokestatic 128, 3) := by decide +kernel
theorem dL_law_861 : decode cL_law 861 = .ok (.istore 5, 2) := by decide +kernel
theorem dL_law_863 : decode cL_law 863 = .ok (.aload_n 2, 1) := by decide +kernel
theorem dL_law_864 : decode cL_law 864 = .ok (.aload_n 0, 1) := by decide +kernel
theorem dL_law_865 : decode cL_law 865 = .ok (.iload 4, 2) := by decide +kernel
theorem dL_law_867 : decode cL_law 867 = .ok (.iconst 1, 1) := by decide +kernel
theorem dL_law_868 : decode cL_law 868 = .ok (.iadd, 1) := by decide +kernel
theorem dL_law_869 : decode cL_law 869 = .ok (.iaload, 1) := by decide +kernel
theorem dL_law_870 : decode cL_law 870 = .ok (.aload_n 0, 1) := by decide +kernel
theorem dL_law_871 : decode cL_law 871 = .ok (.iload 4, 2) := by decide +kernel
theorem dL_law_873 : decode cL_law 873 = .ok (.iconst 2, 1) := by decide +kernel
theorem dL_law_874 : decode cL_law 874 = .ok (.iadd, 1) := by decide +kernel
theorem dL_law_875 : decode cL_law 875 = .ok (.iaload, 1) := by decide +kernel
theorem dL_law_876 : decode cL_law 876 = .ok (.invokevirtual 130, 3) := by decide +kernel
theorem dL_law_879 : decode cL_law 879 = .ok (.istore 6, 2) := by decide +kernel
theorem dL_law_881 : decode cL_law 881 = .ok (.aload_n 2, 1) := by decide +kernel
theorem dL_law_882 : decode cL_law 882 = .ok (.invokevirtual 98, 3) := by decide +kernel
theorem dL_law_885 : decode cL_law 885 = .ok (.iload 5, 2) := by decide +kernel
theorem dL_law_887 : decode cL_law 887 = .ok (.if_icmp .eq 5, 3) := by decide +kernel
theorem dL_law_890 : decode cL_law 890 = .ok (.iconst 0, 1) := by decide +kernel
theorem dL_law_891 : decode cL_law 891 = .ok (.ireturn, 1) := by decide +kernel
theorem dL_law_892 : decode cL_law 892 = .ok (.iload 5, 2) := by decide +kernel
theorem dL_law_894 : decode cL_law 894 = .ok (.ifCond .ne 15, 3) := by decide +kernel
theorem dL_law_897 : decode cL_law 897 = .ok (.aload_n 3, 1) := by decide +kernel
theorem dL_law_898 : decode cL_law 898 = .ok (.iconst 0, 1) := by decide +kernel
theorem dL_law_899 : decode cL_law 899 = .ok (.laload, 1) := by decide +kernel
theorem dL_law_900 : decode cL_law 900 = .ok (.iload 6, 2) := by decide +kernel
theorem dL_law_902 : decode cL_law 902 = .ok (.i2l, 1) := by decide +kernel
theorem dL_law_903 : decode cL_law 903 = .ok (.lcmp, 1) := by decide +kernel
theorem dL_law_904 : decode cL_law 904 = .ok (.ifCond .eq 5, 3) := by decide +kernel
theorem dL_law_907 : decode cL_law 907 = .ok (.iconst 0, 1) := by decide +kernel
theorem dL_law_908 : decode cL_law 908 = .ok (.ireturn, 1) := by decide +kernel
theorem dL_law_909 : decode cL_law 909 = .ok (.goto 568, 3) := by decide +kernel
theorem dL_law_912 : decode cL_law 912 = .ok (.aload_n 1, 1) := by decide +kernel
theorem dL_law_913 : decode cL_law 913 = .ok (.aload_n 0, 1) := by decide +kernel
theorem dL_law_914 : decode cL_law 914 = .ok (.iload 4, 2) := by decide +kernel
theorem dL_law_916 : decode cL_law 916 = .ok (.iconst 1, 1) := by decide +kernel
theorem dL_law_917 : decode cL_law 917 = .ok (.iadd, 1) := by decide +kernel
theorem dL_law_918 : decode cL_law 918 = .ok (.iaload, 1) := by decide +kernel
theorem dL_law_919 : decode cL_law 919 = .ok (.aload_n 0, 1) := by decide +kernel
theorem dL_law_920 : decode cL_law 920 = .ok (.iload 4, 2) := by decide +kernel
theorem dL_law_922 : decode cL_law 922 = .ok (.iconst 2, 1) := by decide +kernel
theorem dL_law_923 : decode cL_law 923 = .ok (.iadd, 1) := by decide +kernel
theorem dL_law_924 : decode cL_law 924 = .ok (.iaload, 1) := by decide +kernel
theorem dL_law_925 : decode cL_law 925 = .ok (.aload_n 3, 1) := by decide +kernel
theorem dL_law_926 : decode cL_law 926 = .ok (.invokestatic 131, 3) := by decide +kernel
theorem dL_law_929 : decode cL_law 929 = .ok (.istore 5, 2) := by decide +kernel
theorem dL_law_931 : decode cL_law 931 = .ok (.aload_n 2, 1) := by decide +kernel
theorem dL_law_932 : decode cL_law 932 = .ok (.aload_n 0, 1) := by decide +kernel
theorem dL_law_933 : decode cL_law 933 = .ok (.iload 4, 2) := by decide +kernel
theorem dL_law_935 : decode cL_law 935 = .ok (.iconst 1, 1) := by decide +kernel
theorem dL_law_936 : decode cL_law 936 = .ok (.iadd, 1) := by decide +kernel
theorem dL_law_937 : decode cL_law 937 = .ok (.iaload, 1) := by decide +kernel
theorem dL_law_938 : decode cL_law 938 = .ok (.aload_n 0, 1) := by decide +kernel
theorem dL_law_939 : decode cL_law 939 = .ok (.iload 4, 2) := by decide +kernel
theorem dL_law_941 : decode cL_law 941 = .ok (.iconst 2, 1) := by decide +kernel
theorem dL_law_942 : decode cL_law 942 = .ok (.iadd, 1) := by decide +kernel
theorem dL_law_943 : decode cL_law 943 = .ok (.iaload, 1) := by decide +kernel
theorem dL_law_944 : decode cL_law 944 = .ok (.invokevirtual 133, 3) := by decide +kernel
theorem dL_law_947 : decode cL_law 947 = .ok (.istore 6, 2) := by decide +kernel
theorem dL_law_949 : decode cL_law 949 = .ok (.aload_n 2, 1) := by decide +kernel
theorem dL_law_950 : decode cL_law 950 = .ok (.invokevirtual 98, 3) := by decide +kernel
theorem dL_law_953 : decode cL_law 953 = .ok (.iload 5, 2) := by decide +kernel
theorem dL_law_955 : decode cL_law 955 = .ok (.if_icmp .eq 5, 3) := by decide +kernel
theorem dL_law_958 : decode cL_law 958 = .ok (.iconst 0, 1) := by decide +kernel
theorem dL_law_959 : decode cL_law 959 = .ok (.ireturn, 1) := by decide +kernel
theorem dL_law_960 : decode cL_law 960 = .ok (.iload 5, 2) := by decide +kernel
theorem dL_law_962 : decode cL_law 962 = .ok (.ifCond .ne 15, 3) := by decide +kernel
theorem dL_law_965 : decode cL_law 965 = .ok (.aload_n 3, 1) := by decide +kernel
theorem dL_law_966 : decode cL_law 966 = .ok (.iconst 0, 1) := by decide +kernel
theorem dL_law_967 : decode cL_law 967 = .ok (.laload, 1) := by decide +kernel
theorem dL_law_968 : decode cL_law 968 = .ok (.iload 6, 2) := by decide +kernel
theorem dL_law_970 : decode cL_law 970 = .ok (.i2l, 1) := by decide +kernel
theorem dL_law_971 : decode cL_law 971 = .ok (.lcmp, 1) := by decide +kernel
theorem dL_law_972 : decode cL_law 972 = .ok (.ifCond .eq 5, 3) := by decide +kernel
theorem dL_law_975 : decode cL_law 975 = .ok (.iconst 0, 1) := by decide +kernel
theorem dL_law_976 : decode cL_law 976 = .ok (.ireturn, 1) := by decide +kernel
theorem dL_law_977 : decode cL_law 977 = .ok (.goto 500, 3) := by decide +kernel
theorem dL_law_980 : decode cL_law 980 = .ok (.aload_n 1, 1) := by decide +kernel
theorem dL_law_981 : decode cL_law 981 = .ok (.aload_n 0, 1) := by decide +kernel
theorem dL_law_982 : decode cL_law 982 = .ok (.iload 4, 2) := by decide +kernel
theorem dL_law_984 : decode cL_law 984 = .ok (.iconst 1, 1) := by decide +kernel
theorem dL_law_985 : decode cL_law 985 = .ok (.iadd, 1) := by decide +kernel
theorem dL_law_986 : decode cL_law 986 = .ok (.iaload, 1) := by decide +kernel
theorem dL_law_987 : decode cL_law 987 = .ok (.aload_n 0, 1) := by decide +kernel
theorem dL_law_988 : decode cL_law 988 = .ok (.iload 4, 2) := by decide +kernel
theorem dL_law_990 : decode cL_law 990 = .ok (.iconst 2, 1) := by decide +kernel
theorem dL_law_991 : decode cL_law 991 = .ok (.iadd, 1) := by decide +kernel
theorem dL_law_992 : decode cL_law 992 = .ok (.iaload, 1) := by decide +kernel
theorem dL_law_993 : decode cL_law 993 = .ok (.aload_n 3, 1) := by decide +kernel
theorem dL_law_994 : decode cL_law 994 = .ok (.invokestatic 134, 3) := by decide +kernel
theorem dL_law_997 : decode cL_law 997 = .ok (.istore 5, 2) := by decide +kernel
theorem dL_law_999 : decode cL_law 999 = .ok (.aload_n 2, 1) := by decide +kernel
theorem dL_law_1000 : decode cL_law 1000 = .ok (.aload_n 0, 1) := by decide +kernel
theorem dL_law_1001 : decode cL_law 1001 = .ok (.iload 4, 2) := by decide +kernel
theorem dL_law_1003 : decode cL_law 1003 = .ok (.iconst 1, 1) := by decide +kernel
theorem dL_law_1004 : decode cL_law 1004 = .ok (.iadd, 1) := by decide +kernel
theorem dL_law_1005 : decode cL_law 1005 = .ok (.iaload, 1) := by decide +kernel
theorem dL_law_1006 : decode cL_law 1006 = .ok (.aload_n 0, 1) := by decide +kernel
theorem dL_law_1007 : decode cL_law 1007 = .ok (.iload 4, 2) := by decide +kernel
theorem dL_law_1009 : decode cL_law 1009 = .ok (.iconst 2, 1) := by decide +kernel
theorem dL_law_1010 : decode cL_law 1010 = .ok (.iadd, 1) := by decide +kernel
theorem dL_law_1011 : decode cL_law 1011 = .ok (.iaload, 1) := by decide +kernel
theorem dL_law_1012 : decode cL_law 1012 = .ok (.invokevirtual 136, 3) := by decide +kernel
theorem dL_law_1015 : decode cL_law 1015 = .ok (.istore 6, 2) := by decide +kernel
theorem dL_law_1017 : decode cL_law 1017 = .ok (.aload_n 2, 1) := by decide +kernel
theorem dL_law_1018 : decode cL_law 1018 = .ok (.invokevirtual 98, 3) := by decide +kernel
theorem dL_law_1021 : decode cL_law 1021 = .ok (.iload 5, 2) := by decide +kernel
theorem dL_law_1023 : decode cL_law 1023 = .ok (.if_icmp .eq 5, 3) := by decide +kernel
theorem dL_law_1026 : decode cL_law 1026 = .ok (.iconst 0, 1) := by decide +kernel
theorem dL_law_1027 : decode cL_law 1027 = .ok (.ireturn, 1) := by decide +kernel
theorem dL_law_1028 : decode cL_law 1028 = .ok (.iload 5, 2) := by decide +kernel
theorem dL_law_1030 : decode cL_law 1030 = .ok (.ifCond .ne 15, 3) := by decide +kernel
theorem dL_law_1033 : decode cL_law 1033 = .ok (.aload_n 3, 1) := by decide +kernel
theorem dL_law_1034 : decode cL_law 1034 = .ok (.iconst 0, 1) := by decide +kernel
theorem dL_law_1035 : decode cL_law 1035 = .ok (.laload, 1) := by decide +kernel
theorem dL_law_1036 : decode cL_law 1036 = .ok (.iload 6, 2) := by decide +kernel
theorem dL_law_1038 : decode cL_law 1038 = .ok (.i2l, 1) := by decide +kernel
theorem dL_law_1039 : decode cL_law 1039 = .ok (.lcmp, 1) := by decide +kernel
theorem dL_law_1040 : decode cL_law 1040 = .ok (.ifCond .eq 5, 3) := by decide +kernel
theorem dL_law_1043 : decode cL_law 1043 = .ok (.iconst 0, 1) := by decide +kernel
theorem dL_law_1044 : decode cL_law 1044 = .ok (.ireturn, 1) := by decide +kernel
theorem dL_law_1045 : decode cL_law 1045 = .ok (.goto 432, 3) := by decide +kernel
theorem dL_law_1048 : decode cL_law 1048 = .ok (.aload_n 1, 1) := by decide +kernel
theorem dL_law_1049 : decode cL_law 1049 = .ok (.aload_n 0, 1) := by decide +kernel
theorem dL_law_1050 : decode cL_law 1050 = .ok (.iload 4, 2) := by decide +kernel
theorem dL_law_1052 : decode cL_law 1052 = .ok (.iconst 1, 1) := by decide +kernel
theorem dL_law_1053 : decode cL_law 1053 = .ok (.iadd, 1) := by decide +kernel
theorem dL_law_1054 : decode cL_law 1054 = .ok (.iaload, 1) := by decide +kernel
theorem dL_law_1055 : decode cL_law 1055 = .ok (.aload_n 0, 1) := by decide +kernel
theorem dL_law_1056 : decode cL_law 1056 = .ok (.iload 4, 2) := by decide +kernel
theorem dL_law_1058 : decode cL_law 1058 = .ok (.iconst 2, 1) := by decide +kernel
theorem dL_law_1059 : decode cL_law 1059 = .ok (.iadd, 1) := by decide +kernel
theorem dL_law_1060 : decode cL_law 1060 = .ok (.iaload, 1) := by decide +kernel
theorem dL_law_1061 : decode cL_law 1061 = .ok (.aload_n 0, 1) := by decide +kernel
theorem dL_law_1062 : decode cL_law 1062 = .ok (.iload 4, 2) := by decide +kernel
theorem dL_law_1064 : decode cL_law 1064 = .ok (.iconst 3, 1) := by decide +kernel
theorem dL_law_1065 : decode cL_law 1065 = .ok (.iadd, 1) := by decide +kernel
theorem dL_law_1066 : decode cL_law 1066 = .ok (.iaload, 1) := by decide +kernel
theorem dL_law_1067 : decode cL_law 1067 = .ok (.aload_n 3, 1) := by decide +kernel
theorem dL_law_1068 : decode cL_law 1068 = .ok (.invokestatic 137, 3) := by decide +kernel
theorem dL_law_1071 : decode cL_law 1071 = .ok (.istore 5, 2) := by decide +kernel
theorem dL_law_1073 : decode cL_law 1073 = .ok (.aload_n 2, 1) := by decide +kernel
theorem dL_law_1074 : decode cL_law 1074 = .ok (.aload_n 0, 1) := by decide +kernel
theorem dL_law_1075 : decode cL_law 1075 = .ok (.iload 4, 2) := by decide +kernel
theorem dL_law_1077 : decode cL_law 1077 = .ok (.iconst 1, 1) := by decide +kernel
theorem dL_law_1078 : decode cL_law 1078 = .ok (.iadd, 1) := by decide +kernel
theorem dL_law_1079 : decode cL_law 1079 = .ok (.iaload, 1) := by decide +kernel
theorem dL_law_1080 : decode cL_law 1080 = .ok (.aload_n 0, 1) := by decide +kernel
theorem dL_law_1081 : decode cL_law 1081 = .ok (.iload 4, 2) := by decide +kernel
theorem dL_law_1083 : decode cL_law 1083 = .ok (.iconst 2, 1) := by decide +kernel
theorem dL_law_1084 : decode cL_law 1084 = .ok (.iadd, 1) := by decide +kernel
theorem dL_law_1085 : decode cL_law 1085 = .ok (.iaload, 1) := by decide +kernel
theorem dL_law_1086 : decode cL_law 1086 = .ok (.aload_n 0, 1) := by decide +kernel
theorem dL_law_1087 : decode cL_law 1087 = .ok (.iload 4, 2) := by decide +kernel
theorem dL_law_1089 : decode cL_law 1089 = .ok (.iconst 3, 1) := by decide +kernel
theorem dL_law_1090 : decode cL_law 1090 = .ok (.iadd, 1) := by decide +kernel
theorem dL_law_1091 : decode cL_law 1091 = .ok (.iaload, 1) := by decide +kernel
theorem dL_law_1092 : decode cL_law 1092 = .ok (.invokevirtual 139, 3) := by decide +kernel
theorem dL_law_1095 : decode cL_law 1095 = .ok (.istore 6, 2) := by decide +kernel
theorem dL_law_1097 : decode cL_law 1097 = .ok (.aload_n 2, 1) := by decide +kernel
theorem dL_law_1098 : decode cL_law 1098 = .ok (.invokevirtual 98, 3) := by decide +kernel
theorem dL_law_1101 : decode cL_law 1101 = .ok (.iload 5, 2) := by decide +kernel
theorem dL_law_1103 : decode cL_law 1103 = .ok (.if_icmp .eq 5, 3) := by decide +kernel
theorem dL_law_1106 : decode cL_law 1106 = .ok (.iconst 0, 1) := by decide +kernel
theorem dL_law_1107 : decode cL_law 1107 = .ok (.ireturn, 1) := by decide +kernel
theorem dL_law_1108 : decode cL_law 1108 = .ok (.iload 5, 2) := by decide +kernel
theorem dL_law_1110 : decode cL_law 1110 = .ok (.ifCond .ne 15, 3) := by decide +kernel
theorem dL_law_1113 : decode cL_law 1113 = .ok (.aload_n 3, 1) := by decide +kernel
theorem dL_law_1114 : decode cL_law 1114 = .ok (.iconst 0, 1) := by decide +kernel
theorem dL_law_1115 : decode cL_law 1115 = .ok (.laload, 1) := by decide +kernel
theorem dL_law_1116 : decode cL_law 1116 = .ok (.iload 6, 2) := by decide +kernel
theorem dL_law_1118 : decode cL_law 1118 = .ok (.i2l, 1) := by decide +kernel
theorem dL_law_1119 : decode cL_law 1119 = .ok (.lcmp, 1) := by decide +kernel
theorem dL_law_1120 : decode cL_law 1120 = .ok (.ifCond .eq 5, 3) := by decide +kernel
theorem dL_law_1123 : decode cL_law 1123 = .ok (.iconst 0, 1) := by decide +kernel
theorem dL_law_1124 : decode cL_law 1124 = .ok (.ireturn, 1) := by decide +kernel
theorem dL_law_1125 : decode cL_law 1125 = .ok (.goto 352, 3) := by decide +kernel
theorem dL_law_1128 : decode cL_law 1128 = .ok (.aload_n 1, 1) := by decide +kernel
theorem dL_law_1129 : decode cL_law 1129 = .ok (.aload_n 0, 1) := by decide +kernel
theorem dL_law_1130 : decode cL_law 1130 = .ok (.iload 4, 2) := by decide +kernel
theorem dL_law_1132 : decode cL_law 1132 = .ok (.iconst 1, 1) := by decide +kernel
theorem dL_law_1133 : decode cL_law 1133 = .ok (.iadd, 1) := by decide +kernel
theorem dL_law_1134 : decode cL_law 1134 = .ok (.iaload, 1) := by decide +kernel
theorem dL_law_1135 : decode cL_law 1135 = .ok (.aload_n 0, 1) := by decide +kernel
theorem dL_law_1136 : decode cL_law 1136 = .ok (.iload 4, 2) := by decide +kernel
theorem dL_law_1138 : decode cL_law 1138 = .ok (.iconst 2, 1) := by decide +kernel
theorem dL_law_1139 : decode cL_law 1139 = .ok (.iadd, 1) := by decide +kernel
theorem dL_law_1140 : decode cL_law 1140 = .ok (.iaload, 1) := by decide +kernel
theorem dL_law_1141 : decode cL_law 1141 = .ok (.aload_n 3, 1) := by decide +kernel
theorem dL_law_1142 : decode cL_law 1142 = .ok (.invokestatic 140, 3) := by decide +kernel
theorem dL_law_1145 : decode cL_law 1145 = .ok (.istore 5, 2) := by decide +kernel
theorem dL_law_1147 : decode cL_law 1147 = .ok (.aload_n 2, 1) := by decide +kernel
theorem dL_law_1148 : decode cL_law 1148 = .ok (.aload_n 0, 1) := by decide +kernel
theorem dL_law_1149 : decode cL_law 1149 = .ok (.iload 4, 2) := by decide +kernel
theorem dL_law_1151 : decode cL_law 1151 = .ok (.iconst 1, 1) := by decide +kernel
theorem dL_law_1152 : decode cL_law 1152 = .ok (.iadd, 1) := by decide +kernel
theorem dL_law_1153 : decode cL_law 1153 = .ok (.iaload, 1) := by decide +kernel
theorem dL_law_1154 : decode cL_law 1154 = .ok (.aload_n 0, 1) := by decide +kernel
theorem dL_law_1155 : decode cL_law 1155 = .ok (.iload 4, 2) := by decide +kernel
theorem dL_law_1157 : decode cL_law 1157 = .ok (.iconst 2, 1) := by decide +kernel
theorem dL_law_1158 : decode cL_law 1158 = .ok (.iadd, 1) := by decide +kernel
theorem dL_law_1159 : decode cL_law 1159 = .ok (.iaload, 1) := by decide +kernel
theorem dL_law_1160 : decode cL_law 1160 = .ok (.invokevirtual 142, 3) := by decide +kernel
theorem dL_law_1163 : decode cL_law 1163 = .ok (.istore 6, 2) := by decide +kernel
theorem dL_law_1165 : decode cL_law 1165 = .ok (.aload_n 2, 1) := by decide +kernel
theorem dL_law_1166 : decode cL_law 1166 = .ok (.invokevirtual 98, 3) := by decide +kernel
theorem dL_law_1169 : decode cL_law 1169 = .ok (.iload 5, 2) := by decide +kernel
theorem dL_law_1171 : decode cL_law 1171 = .ok (.if_icmp .eq 5, 3) := by decide +kernel
theorem dL_law_1174 : decode cL_law 1174 = .ok (.iconst 0, 1) := by decide +kernel
theorem dL_law_1175 : decode cL_law 1175 = .ok (.ireturn, 1) := by decide +kernel
theorem dL_law_1176 : decode cL_law 1176 = .ok (.iload 5, 2) := by decide +kernel
theorem dL_law_1178 : decode cL_law 1178 = .ok (.ifCond .ne 15, 3) := by decide +kernel
theorem dL_law_1181 : decode cL_law 1181 = .ok (.aload_n 3, 1) := by decide +kernel
theorem dL_law_1182 : decode cL_law 1182 = .ok (.iconst 0, 1) := by decide +kernel
theorem dL_law_1183 : decode cL_law 1183 = .ok (.laload, 1) := by decide +kernel
theorem dL_law_1184 : decode cL_law 1184 = .ok (.iload 6, 2) := by decide +kernel
theorem dL_law_1186 : decode cL_law 1186 = .ok (.i2l, 1) := by decide +kernel
theorem dL_law_1187 : decode cL_law 1187 = .ok (.lcmp, 1) := by decide +kernel
theorem dL_law_1188 : decode cL_law 1188 = .ok (.ifCond .eq 5, 3) := by decide +kernel
theorem dL_law_1191 : decode cL_law 1191 = .ok (.iconst 0, 1) := by decide +kernel
theorem dL_law_1192 : decode cL_law 1192 = .ok (.ireturn, 1) := by decide +kernel
theorem dL_law_1193 : decode cL_law 1193 = .ok (.goto 284, 3) := by decide +kernel
theorem dL_law_1196 : decode cL_law 1196 = .ok (.aload_n 1, 1) := by decide +kernel
theorem dL_law_1197 : decode cL_law 1197 = .ok (.aload_n 3, 1) := by decide +kernel
theorem dL_law_1198 : decode cL_law 1198 = .ok (.invokestatic 143, 3) := by decide +kernel
theorem dL_law_1201 : decode cL_law 1201 = .ok (.istore 5, 2) := by decide +kernel
theorem dL_law_1203 : decode cL_law 1203 = .ok (.aload_n 2, 1) := by decide +kernel
theorem dL_law_1204 : decode cL_law 1204 = .ok (.invokevirtual 146, 3) := by decide +kernel
theorem dL_law_1207 : decode cL_law 1207 = .ok (.istore 6, 2) := by decide +kernel
theorem dL_law_1209 : decode cL_law 1209 = .ok (.aload_n 2, 1) := by decide +kernel
theorem dL_law_1210 : decode cL_law 1210 = .ok (.invokevirtual 98, 3) := by decide +kernel
theorem dL_law_1213 : decode cL_law 1213 = .ok (.iload 5, 2) := by decide +kernel
theorem dL_law_1215 : decode cL_law 1215 = .ok (.if_icmp .eq 5, 3) := by decide +kernel
theorem dL_law_1218 : decode cL_law 1218 = .ok (.iconst 0, 1) := by decide +kernel
theorem dL_law_1219 : decode cL_law 1219 = .ok (.ireturn, 1) := by decide +kernel
theorem dL_law_1220 : decode cL_law 1220 = .ok (.iload 5, 2) := by decide +kernel
theorem dL_law_1222 : decode cL_law 1222 = .ok (.ifCond .ne 15, 3) := by decide +kernel
theorem dL_law_1225 : decode cL_law 1225 = .ok (.aload_n 3, 1) := by decide +kernel
theorem dL_law_1226 : decode cL_law 1226 = .ok (.iconst 0, 1) := by decide +kernel
theorem dL_law_1227 : decode cL_law 1227 = .ok (.laload, 1) := by decide +kernel
theorem dL_law_1228 : decode cL_law 1228 = .ok (.iload 6, 2) := by decide +kernel
theorem dL_law_1230 : decode cL_law 1230 = .ok (.i2l, 1) := by decide +kernel
theorem dL_law_1231 : decode cL_law 1231 = .ok (.lcmp, 1) := by decide +kernel
theorem dL_law_1232 : decode cL_law 1232 = .ok (.ifCond .eq 5, 3) := by decide +kernel
theorem dL_law_1235 : decode cL_law 1235 = .ok (.iconst 0, 1) := by decide +kernel
theorem dL_law_1236 : decode cL_law 1236 = .ok (.ireturn, 1) := by decide +kernel
theorem dL_law_1237 : decode cL_law 1237 = .ok (.goto 240, 3) := by decide +kernel
theorem dL_law_1240 : decode cL_law 1240 = .ok (.aload_n 1, 1) := by decide +kernel
theorem dL_law_1241 : decode cL_law 1241 = .ok (.aload_n 3, 1) := by decide +kernel
theorem dL_law_1242 : decode cL_law 1242 = .ok (.invokestatic 147, 3) := by decide +kernel
theorem dL_law_1245 : decode cL_law 1245 = .ok (.istore 5, 2) := by decide +kernel
theorem dL_law_1247 : decode cL_law 1247 = .ok (.aload_n 2, 1) := by decide +kernel
theorem dL_law_1248 : decode cL_law 1248 = .ok (.invokevirtual 149, 3) := by decide +kernel
theorem dL_law_1251 : decode cL_law 1251 = .ok (.istore 6, 2) := by decide +kernel
theorem dL_law_1253 : decode cL_law 1253 = .ok (.aload_n 2, 1) := by decide +kernel
theorem dL_law_1254 : decode cL_law 1254 = .ok (.invokevirtual 98, 3) := by decide +kernel
theorem dL_law_1257 : decode cL_law 1257 = .ok (.iload 5, 2) := by decide +kernel
theorem dL_law_1259 : decode cL_law 1259 = .ok (.if_icmp .eq 5, 3) := by decide +kernel
theorem dL_law_1262 : decode cL_law 1262 = .ok (.iconst 0, 1) := by decide +kernel
theorem dL_law_1263 : decode cL_law 1263 = .ok (.ireturn, 1) := by decide +kernel
theorem dL_law_1264 : decode cL_law 1264 = .ok (.iload 5, 2) := by decide +kernel
theorem dL_law_1266 : decode cL_law 1266 = .ok (.ifCond .ne 15, 3) := by decide +kernel
theorem dL_law_1269 : decode cL_law 1269 = .ok (.aload_n 3, 1) := by decide +kernel
theorem dL_law_1270 : decode cL_law 1270 = .ok (.iconst 0, 1) := by decide +kernel
theorem dL_law_1271 : decode cL_law 1271 = .ok (.laload, 1) := by decide +kernel
theorem dL_law_1272 : decode cL_law 1272 = .ok (.iload 6, 2) := by decide +kernel
theorem dL_law_1274 : decode cL_law 1274 = .ok (.i2l, 1) := by decide +kernel
theorem dL_law_1275 : decode cL_law 1275 = .ok (.lcmp, 1) := by decide +kernel
theorem dL_law_1276 : decode cL_law 1276 = .ok (.ifCond .eq 5, 3) := by decide +kernel
theorem dL_law_1279 : decode cL_law 1279 = .ok (.iconst 0, 1) := by decide +kernel
theorem dL_law_1280 : decode cL_law 1280 = .ok (.ireturn, 1) := by decide +kernel
theorem dL_law_1281 : decode cL_law 1281 = .ok (.goto 196, 3) := by decide +kernel
theorem dL_law_1284 : decode cL_law 1284 = .ok (.aload_n 1, 1) := by decide +kernel
theorem dL_law_1285 : decode cL_law 1285 = .ok (.aload_n 3, 1) := by decide +kernel
theorem dL_law_1286 : decode cL_law 1286 = .ok (.invokestatic 150, 3) := by decide +kernel
theorem dL_law_1289 : decode cL_law 1289 = .ok (.istore 5, 2) := by decide +kernel
theorem dL_law_1291 : decode cL_law 1291 = .ok (.aload_n 2, 1) := by decide +kernel
theorem dL_law_1292 : decode cL_law 1292 = .ok (.invokevirtual 152, 3) := by decide +kernel
theorem dL_law_1295 : decode cL_law 1295 = .ok (.istore 6, 2) := by decide +kernel
theorem dL_law_1297 : decode cL_law 1297 = .ok (.aload_n 2, 1) := by decide +kernel
theorem dL_law_1298 : decode cL_law 1298 = .ok (.invokevirtual 98, 3) := by decide +kernel
theorem dL_law_1301 : decode cL_law 1301 = .ok (.iload 5, 2) := by decide +kernel
theorem dL_law_1303 : decode cL_law 1303 = .ok (.if_icmp .eq 5, 3) := by decide +kernel
theorem dL_law_1306 : decode cL_law 1306 = .ok (.iconst 0, 1) := by decide +kernel
theorem dL_law_1307 : decode cL_law 1307 = .ok (.ireturn, 1) := by decide +kernel
theorem dL_law_1308 : decode cL_law 1308 = .ok (.iload 5, 2) := by decide +kernel
theorem dL_law_1310 : decode cL_law 1310 = .ok (.ifCond .ne 15, 3) := by decide +kernel
theorem dL_law_1313 : decode cL_law 1313 = .ok (.aload_n 3, 1) := by decide +kernel
theorem dL_law_1314 : decode cL_law 1314 = .ok (.iconst 0, 1) := by decide +kernel
theorem dL_law_1315 : decode cL_law 1315 = .ok (.laload, 1) := by decide +kernel
theorem dL_law_1316 : decode cL_law 1316 = .ok (.iload 6, 2) := by decide +kernel
theorem dL_law_1318 : decode cL_law 1318 = .ok (.i2l, 1) := by decide +kernel
theorem dL_law_1319 : decode cL_law 1319 = .ok (.lcmp, 1) := by decide +kernel
theorem dL_law_1320 : decode cL_law 1320 = .ok (.ifCond .eq 5, 3) := by decide +kernel
theorem dL_law_1323 : decode cL_law 1323 = .ok (.iconst 0, 1) := by decide +kernel
theorem dL_law_1324 : decode cL_law 1324 = .ok (.ireturn, 1) := by decide +kernel
theorem dL_law_1325 : decode cL_law 1325 = .ok (.goto 152, 3) := by decide +kernel
theorem dL_law_1328 : decode cL_law 1328 = .ok (.aload_n 1, 1) := by decide +kernel
theorem dL_law_1329 : decode cL_law 1329 = .ok (.aload_n 0, 1) := by decide +kernel
theorem dL_law_1330 : decode cL_law 1330 = .ok (.iload 4, 2) := by decide +kernel
theorem dL_law_1332 : decode cL_law 1332 = .ok (.iconst 1, 1) := by decide +kernel
theorem dL_law_1333 : decode cL_law 1333 = .ok (.iadd, 1) := by decide +kernel
theorem dL_law_1334 : decode cL_law 1334 = .ok (.iaload, 1) := by decide +kernel
theorem dL_law_1335 : decode cL_law 1335 = .ok (.invokestatic 153, 3) := by decide +kernel
theorem dL_law_1338 : decode cL_law 1338 = .ok (.istore 5, 2) := by decide +kernel
theorem dL_law_1340 : decode cL_law 1340 = .ok (.aload_n 2, 1) := by decide +kernel
theorem dL_law_1341 : decode cL_law 1341 = .ok (.aload_n 0, 1) := by decide +kernel
theorem dL_law_1342 : decode cL_law 1342 = .ok (.iload 4, 2) := by decide +kernel
theorem dL_law_1344 : decode cL_law 1344 = .ok (.iconst 1, 1) := by decide +kernel
theorem dL_law_1345 : decode cL_law 1345 = .ok (.iadd, 1) := by decide +kernel
theorem dL_law_1346 : decode cL_law 1346 = .ok (.iaload, 1) := by decide +kernel
theorem dL_law_1347 : decode cL_law 1347 = .ok (.invokevirtual 156, 3) := by decide +kernel
theorem dL_law_1350 : decode cL_law 1350 = .ok (.aload_n 2, 1) := by decide +kernel
theorem dL_law_1351 : decode cL_law 1351 = .ok (.invokevirtual 98, 3) := by decide +kernel
theorem dL_law_1354 : decode cL_law 1354 = .ok (.iload 5, 2) := by decide +kernel
theorem dL_law_1356 : decode cL_law 1356 = .ok (.if_icmp .eq 5, 3) := by decide +kernel
theorem dL_law_1359 : decode cL_law 1359 = .ok (.iconst 0, 1) := by decide +kernel
theorem dL_law_1360 : decode cL_law 1360 = .ok (.ireturn, 1) := by decide +kernel
theorem dL_law_1361 : decode cL_law 1361 = .ok (.goto 116, 3) := by decide +kernel
theorem dL_law_1364 : decode cL_law 1364 = .ok (.aload_n 1, 1) := by decide +kernel
theorem dL_law_1365 : decode cL_law 1365 = .ok (.invokevirtual 157, 3) := by decide +kernel
theorem dL_law_1368 : decode cL_law 1368 = .ok (.aload_n 2, 1) := by decide +kernel
theorem dL_law_1369 : decode cL_law 1369 = .ok (.invokevirtual 161, 3) := by decide +kernel
theorem dL_law_1372 : decode cL_law 1372 = .ok (.if_icmp .eq 105, 3) := by decide +kernel
theorem dL_law_1375 : decode cL_law 1375 = .ok (.iconst 0, 1) := by decide +kernel
theorem dL_law_1376 : decode cL_law 1376 = .ok (.ireturn, 1) := by decide +kernel
theorem dL_law_1377 : decode cL_law 1377 = .ok (.aload_n 1, 1) := by decide +kernel
theorem dL_law_1378 : decode cL_law 1378 = .ok (.aload_n 3, 1) := by decide +kernel
theorem dL_law_1379 : decode cL_law 1379 = .ok (.invokestatic 162, 3) := by decide +kernel
theorem dL_law_1382 : decode cL_law 1382 = .ok (.istore 5, 2) := by decide +kernel
theorem dL_law_1384 : decode cL_law 1384 = .ok (.aload_n 2, 1) := by decide +kernel
theorem dL_law_1385 : decode cL_law 1385 = .ok (.invokevirtual 164, 3) := by decide +kernel
theorem dL_law_1388 : decode cL_law 1388 = .ok (.istore 6, 2) := by decide +kernel
theorem dL_law_1390 : decode cL_law 1390 = .ok (.aload_n 2, 1) := by decide +kernel
theorem dL_law_1391 : decode cL_law 1391 = .ok (.invokevirtual 98, 3) := by decide +kernel
theorem dL_law_1394 : decode cL_law 1394 = .ok (.iload 5, 2) := by decide +kernel
theorem dL_law_1396 : decode cL_law 1396 = .ok (.if_icmp .eq 5, 3) := by decide +kernel
theorem dL_law_1399 : decode cL_law 1399 = .ok (.iconst 0, 1) := by decide +kernel
theorem dL_law_1400 : decode cL_law 1400 = .ok (.ireturn, 1) := by decide +kernel
theorem dL_law_1401 : decode cL_law 1401 = .ok (.iload 5, 2) := by decide +kernel
theorem dL_law_1403 : decode cL_law 1403 = .ok (.ifCond .ne 15, 3) := by decide +kernel
theorem dL_law_1406 : decode cL_law 1406 = .ok (.aload_n 3, 1) := by decide +kernel
theorem dL_law_1407 : decode cL_law 1407 = .ok (.iconst 0, 1) := by decide +kernel
theorem dL_law_1408 : decode cL_law 1408 = .ok (.laload, 1) := by decide +kernel
theorem dL_law_1409 : decode cL_law 1409 = .ok (.iload 6, 2) := by decide +kernel
theorem dL_law_1411 : decode cL_law 1411 = .ok (.i2l, 1) := by decide +kernel
theorem dL_law_1412 : decode cL_law 1412 = .ok (.lcmp, 1) := by decide +kernel
theorem dL_law_1413 : decode cL_law 1413 = .ok (.ifCond .eq 5, 3) := by decide +kernel
theorem dL_law_1416 : decode cL_law 1416 = .ok (.iconst 0, 1) := by decide +kernel
theorem dL_law_1417 : decode cL_law 1417 = .ok (.ireturn, 1) := by decide +kernel
theorem dL_law_1418 : decode cL_law 1418 = .ok (.goto 59, 3) := by decide +kernel
theorem dL_law_1421 : decode cL_law 1421 = .ok (.aload_n 1, 1) := by decide +kernel
theorem dL_law_1422 : decode cL_law 1422 = .ok (.aload_n 0, 1) := by decide +kernel
theorem dL_law_1423 : decode cL_law 1423 = .ok (.iload 4, 2) := by decide +kernel
theorem dL_law_1425 : decode cL_law 1425 = .ok (.iconst 1, 1) := by decide +kernel
theorem dL_law_1426 : decode cL_law 1426 = .ok (.iadd, 1) := by decide +kernel
theorem dL_law_1427 : decode cL_law 1427 = .ok (.iaload, 1) := by decide +kernel
theorem dL_law_1428 : decode cL_law 1428 = .ok (.aload_n 3, 1) := by decide +kernel
theorem dL_law_1429 : decode cL_law 1429 = .ok (.invokestatic 165, 3) := by decide +kernel
theorem dL_law_1432 : decode cL_law 1432 = .ok (.istore 5, 2) := by decide +kernel
theorem dL_law_1434 : decode cL_law 1434 = .ok (.aload_n 2, 1) := by decide +kernel
theorem dL_law_1435 : decode cL_law 1435 = .ok (.aload_n 0, 1) := by decide +kernel
theorem dL_law_1436 : decode cL_law 1436 = .ok (.iload 4, 2) := by decide +kernel
theorem dL_law_1438 : decode cL_law 1438 = .ok (.iconst 1, 1) := by decide +kernel
theorem dL_law_1439 : decode cL_law 1439 = .ok (.iadd, 1) := by decide +kernel
theorem dL_law_1440 : decode cL_law 1440 = .ok (.iaload, 1) := by decide +kernel
theorem dL_law_1441 : decode cL_law 1441 = .ok (.invokevirtual 168, 3) := by decide +kernel
theorem dL_law_1444 : decode cL_law 1444 = .ok (.istore 6, 2) := by decide +kernel
theorem dL_law_1446 : decode cL_law 1446 = .ok (.aload_n 2, 1) := by decide +kernel
theorem dL_law_1447 : decode cL_law 1447 = .ok (.invokevirtual 98, 3) := by decide +kernel
theorem dL_law_1450 : decode cL_law 1450 = .ok (.iload 5, 2) := by decide +kernel
theorem dL_law_1452 : decode cL_law 1452 = .ok (.if_icmp .eq 5, 3) := by decide +kernel
theorem dL_law_1455 : decode cL_law 1455 = .ok (.iconst 0, 1) := by decide +kernel
theorem dL_law_1456 : decode cL_law 1456 = .ok (.ireturn, 1) := by decide +kernel
theorem dL_law_1457 : decode cL_law 1457 = .ok (.iload 5, 2) := by decide +kernel
theorem dL_law_1459 : decode cL_law 1459 = .ok (.ifCond .ne 15, 3) := by decide +kernel
theorem dL_law_1462 : decode cL_law 1462 = .ok (.aload_n 3, 1) := by decide +kernel
theorem dL_law_1463 : decode cL_law 1463 = .ok (.iconst 0, 1) := by decide +kernel
theorem dL_law_1464 : decode cL_law 1464 = .ok (.laload, 1) := by decide +kernel
theorem dL_law_1465 : decode cL_law 1465 = .ok (.iload 6, 2) := by decide +kernel
theorem dL_law_1467 : decode cL_law 1467 = .ok (.i2l, 1) := by decide +kernel
theorem dL_law_1468 : decode cL_law 1468 = .ok (.lcmp, 1) := by decide +kernel
theorem dL_law_1469 : decode cL_law 1469 = .ok (.ifCond .eq 5, 3) := by decide +kernel
theorem dL_law_1472 : decode cL_law 1472 = .ok (.iconst 0, 1) := by decide +kernel
theorem dL_law_1473 : decode cL_law 1473 = .ok (.ireturn, 1) := by decide +kernel
theorem dL_law_1474 : decode cL_law 1474 = .ok (.goto 3, 3) := by decide +kernel
theorem dL_law_1477 : decode cL_law 1477 = .ok (.iinc 4 6, 3) := by decide +kernel
theorem dL_law_1480 : decode cL_law 1480 = .ok (.goto (-1437), 3) := by decide +kernel
theorem dL_law_1483 : decode cL_law 1483 = .ok (.iconst 1, 1) := by decide +kernel
theorem dL_law_1484 : decode cL_law 1484 = .ok (.ireturn, 1) := by decide +kernel
