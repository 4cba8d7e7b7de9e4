theorem dX0_init_0 : decode cX0_init 0 = .ok (.aload_n 0, 1) := by decide +kernel
theorem dX0_init_1 : decode cX0_init 1 = .ok (.invokespecial 3, 3) := by decide +kernel
theorem dX0_init_4 : decode cX0_init 4 = .ok (.aload_n 0, 1) := by decide +kernel
theorem dX0_init_5 : decode cX0_init 5 = .ok (.new 9, 3) := by decide +kernel
theorem dX0_init_8 : decode cX0_init 8 = .ok (.dup, 1) := by decide +kernel
theorem dX0_init_9 : decode cX0_init 9 = .ok (.iload_n 1, 1) := by decide +kernel
theorem dX0_init_10 : decode cX0_init 10 = .ok (.invokespecial 11, 3) := by decide +kernel
theorem dX0_init_13 : decode cX0_init 13 = .ok (.putfield 14, 3) := by decide +kernel
theorem dX0_init_16 : decode cX0_init 16 = .ok (.aload_n 0, 1) := by decide +kernel
theorem dX0_init_17 : decode cX0_init 17 = .ok (.new 20, 3) := by decide +kernel
theorem dX0_init_20 : decode cX0_init 20 = .ok (.dup, 1) := by decide +kernel
theorem dX0_init_21 : decode cX0_init 21 = .ok (.invokespecial 22, 3) := by decide +kernel
theorem dX0_init_24 : decode cX0_init 24 = .ok (.putfield 23, 3) := by decide +kernel
theorem dX0_init_27 : decode cX0_init 27 = .ok (.aload_n 0, 1) := by decide +kernel
theorem dX0_init_28 : decode cX0_init 28 = .ok (.iload_n 1, 1) := by decide +kernel
theorem dX0_init_29 : decode cX0_init 29 = .ok (.sipush 128, 3) := by decide +kernel
theorem dX0_init_32 : decode cX0_init 32 = .ok (.imul, 1) := by decide +kernel
theorem dX0_init_33 : decode cX0_init 33 = .ok (.newarray .byte, 2) := by decide +kernel
theorem dX0_init_35 : decode cX0_init 35 = .ok (.putfield 27, 3) := by decide +kernel
theorem dX0_init_38 : decode cX0_init 38 = .ok (.aload_n 0, 1) := by decide +kernel
theorem dX0_init_39 : decode cX0_init 39 = .ok (.sipush 2440, 3) := by decide +kernel
theorem dX0_init_42 : decode cX0_init 42 = .ok (.newarray .byte, 2) := by decide +kernel
theorem dX0_init_44 : decode cX0_init 44 = .ok (.putfield 31, 3) := by decide +kernel
theorem dX0_init_47 : decode cX0_init 47 = .ok (.return_, 1) := by decide +kernel
theorem dX0_copyFrom_0 : decode cX0_copyFrom 0 = .ok (.aload_n 0, 1) := by decide +kernel
theorem dX0_copyFrom_1 : decode cX0_copyFrom 1 = .ok (.getfield 14, 3) := by decide +kernel
theorem dX0_copyFrom_4 : decode cX0_copyFrom 4 = .ok (.aload_n 1, 1) := by decide +kernel
theorem dX0_copyFrom_5 : decode cX0_copyFrom 5 = .ok (.getfield 14, 3) := by decide +kernel
theorem dX0_copyFrom_8 : decode cX0_copyFrom 8 = .ok (.invokevirtual 34, 3) := by decide +kernel
theorem dX0_copyFrom_11 : decode cX0_copyFrom 11 = .ok (.aload_n 0, 1) := by decide +kernel
theorem dX0_copyFrom_12 : decode cX0_copyFrom 12 = .ok (.getfield 23, 3) := by decide +kernel
theorem dX0_copyFrom_15 : decode cX0_copyFrom 15 = .ok (.aload_n 1, 1) := by decide +kernel
theorem dX0_copyFrom_16 : decode cX0_copyFrom 16 = .ok (.getfield 23, 3) := by decide +kernel
theorem dX0_copyFrom_19 : decode cX0_copyFrom 19 = .ok (.invokevirtual 38, 3) := by decide +kernel
theorem dX0_copyFrom_22 : decode cX0_copyFrom 22 = .ok (.aload_n 1, 1) := by decide +kernel
theorem dX0_copyFrom_23 : decode cX0_copyFrom 23 = .ok (.getfield 27, 3) := by decide +kernel
theorem dX0_copyFrom_26 : decode cX0_copyFrom 26 = .ok (.iconst 0, 1) := by decide +kernel
theorem dX0_copyFrom_27 : decode cX0_copyFrom 27 = .ok (.aload_n 0, 1) := by decide +kernel
theorem dX0_copyFrom_28 : decode cX0_copyFrom 28 = .ok (.getfield 27, 3) := by decide +kernel
theorem dX0_copyFrom_31 : decode cX0_copyFrom 31 = .ok (.iconst 0, 1) := by decide +kernel
theorem dX0_copyFrom_32 : decode cX0_copyFrom 32 = .ok (.aload_n 0, 1) := by decide +kernel
theorem dX0_copyFrom_33 : decode cX0_copyFrom 33 = .ok (.getfield 27, 3) := by decide +kernel
theorem dX0_copyFrom_36 : decode cX0_copyFrom 36 = .ok (.arraylength, 1) := by decide +kernel
theorem dX0_copyFrom_37 : decode cX0_copyFrom 37 = .ok (.invokestatic 41, 3) := by decide +kernel
theorem dX0_copyFrom_40 : decode cX0_copyFrom 40 = .ok (.aload_n 1, 1) := by decide +kernel
theorem dX0_copyFrom_41 : decode cX0_copyFrom 41 = .ok (.getfield 31, 3) := by decide +kernel
theorem dX0_copyFrom_44 : decode cX0_copyFrom 44 = .ok (.iconst 0, 1) := by decide +kernel
theorem dX0_copyFrom_45 : decode cX0_copyFrom 45 = .ok (.aload_n 0, 1) := by decide +kernel
theorem dX0_copyFrom_46 : decode cX0_copyFrom 46 = .ok (.getfield 31, 3) := by decide +kernel
theorem dX0_copyFrom_49 : decode cX0_copyFrom 49 = .ok (.iconst 0, 1) := by decide +kernel
theorem dX0_copyFrom_50 : decode cX0_copyFrom 50 = .ok (.aload_n 0, 1) := by decide +kernel
theorem dX0_copyFrom_51 : decode cX0_copyFrom 51 = .ok (.getfield 31, 3) := by decide +kernel
theorem dX0_copyFrom_54 : decode cX0_copyFrom 54 = .ok (.arraylength, 1) := by decide +kernel
theorem dX0_copyFrom_55 : decode cX0_copyFrom 55 = .ok (.invokestatic 41, 3) := by decide +kernel
theorem dX0_copyFrom_58 : decode cX0_copyFrom 58 = .ok (.return_, 1) := by decide +kernel
theorem dX0_gather_0 : decode cX0_gather 0 = .ok (.aload_n 0, 1) := by decide +kernel
theorem dX0_gather_1 : decode cX0_gather 1 = .ok (.getfield 23, 3) := by decide +kernel
theorem dX0_gather_4 : decode cX0_gather 4 = .ok (.iload_n 1, 1) := by decide +kernel
theorem dX0_gather_5 : decode cX0_gather 5 = .ok (.invokevirtual 47, 3) := by decide +kernel
theorem dX0_gather_8 : decode cX0_gather 8 = .ok (.istore_n 3, 1) := by decide +kernel
theorem dX0_gather_9 : decode cX0_gather 9 = .ok (.aload_n 2, 1) := by decide +kernel
theorem dX0_gather_10 : decode cX0_gather 10 = .ok (.iconst 0, 1) := by decide +kernel
theorem dX0_gather_11 : decode cX0_gather 11 = .ok (.invokestatic 51, 3) := by decide +kernel
theorem dX0_gather_14 : decode cX0_gather 14 = .ok (.iconst 0, 1) := by decide +kernel
theorem dX0_gather_15 : decode cX0_gather 15 = .ok (.istore 4, 2) := by decide +kernel
theorem dX0_gather_17 : decode cX0_gather 17 = .ok (.iload 4, 2) := by decide +kernel
theorem dX0_gather_19 : decode cX0_gather 19 = .ok (.iload_n 3, 1) := by decide +kernel
theorem dX0_gather_20 : decode cX0_gather 20 = .ok (.if_icmp .ge 49, 3) := by decide +kernel
theorem dX0_gather_23 : decode cX0_gather 23 = .ok (.aload_n 0, 1) := by decide +kernel
theorem dX0_gather_24 : decode cX0_gather 24 = .ok (.getfield 23, 3) := by decide +kernel
theorem dX0_gather_27 : decode cX0_gather 27 = .ok (.getfield 57, 3) := by decide +kernel
theorem dX0_gather_30 : decode cX0_gather 30 = .ok (.iload_n 1, 1) := by decide +kernel
theorem dX0_gather_31 : decode cX0_gather 31 = .ok (.bipush 16, 2) := by decide +kernel
theorem dX0_gather_33 : decode cX0_gather 33 = .ok (.imul, 1) := by decide +kernel
theorem dX0_gather_34 : decode cX0_gather 34 = .ok (.iload 4, 2) := by decide +kernel
theorem dX0_gather_36 : decode cX0_gather 36 = .ok (.iadd, 1) := by decide +kernel
theorem dX0_gather_37 : decode cX0_gather 37 = .ok (.iaload, 1) := by decide +kernel
theorem dX0_gather_38 : decode cX0_gather 38 = .ok (.sipush 128, 3) := by decide +kernel
theorem dX0_gather_41 : decode cX0_gather 41 = .ok (.imul, 1) := by decide +kernel
theorem dX0_gather_42 : decode cX0_gather 42 = .ok (.istore 5, 2) := by decide +kernel
theorem dX0_gather_44 : decode cX0_gather 44 = .ok (.aload_n 0, 1) := by decide +kernel
theorem dX0_gather_45 : decode cX0_gather 45 = .ok (.getfield 27, 3) := by decide +kernel
theorem dX0_gather_48 : decode cX0_gather 48 = .ok (.iload 5, 2) := by decide +kernel
theorem dX0_gather_50 : decode cX0_gather 50 = .ok (.aload_n 2, 1) := by decide +kernel
theorem dX0_gather_51 : decode cX0_gather 51 = .ok (.iload 4, 2) := by decide +kernel
theorem dX0_gather_53 : decode cX0_gather 53 = .ok (.sipush 128, 3) := by decide +kernel
theorem dX0_gather_56 : decode cX0_gather 56 = .ok (.imul, 1) := by decide +kernel
theorem dX0_gather_57 : decode cX0_gather 57 = .ok (.sipush 128, 3) := by decide +kernel
theorem dX0_gather_60 : decode cX0_gather 60 = .ok (.invokestatic 41, 3) := by decide +kernel
theorem dX0_gather_63 : decode cX0_gather 63 = .ok (.iinc 4 1, 3) := by decide +kernel
theorem dX0_gather_66 : decode cX0_gather 66 = .ok (.goto (-49), 3) := by decide +kernel
theorem dX0_gather_69 : decode cX0_gather 69 = .ok (.aload_n 0, 1) := by decide +kernel
theorem dX0_gather_70 : decode cX0_gather 70 = .ok (.getfield 31, 3) := by decide +kernel
theorem dX0_gather_73 : decode cX0_gather 73 = .ok (.iload_n 1, 1) := by decide +kernel
theorem dX0_gather_74 : decode cX0_gather 74 = .ok (.bipush 40, 2) := by decide +kernel
theorem dX0_gather_76 : decode cX0_gather 76 = .ok (.imul, 1) := by decide +kernel
theorem dX0_gather_77 : decode cX0_gather 77 = .ok (.aload_n 2, 1) := by decide +kernel
theorem dX0_gather_78 : decode cX0_gather 78 = .ok (.iload_n 3, 1) := by decide +kernel
theorem dX0_gather_79 : decode cX0_gather 79 = .ok (.sipush 128, 3) := by decide +kernel
theorem dX0_gather_82 : decode cX0_gather 82 = .ok (.imul, 1) := by decide +kernel
theorem dX0_gather_83 : decode cX0_gather 83 = .ok (.aload_n 0, 1) := by decide +kernel
theorem dX0_gather_84 : decode cX0_gather 84 = .ok (.getfield 23, 3) := by decide +kernel
theorem dX0_gather_87 : decode cX0_gather 87 = .ok (.iload_n 1, 1) := by decide +kernel
theorem dX0_gather_88 : decode cX0_gather 88 = .ok (.invokevirtual 61, 3) := by decide +kernel
theorem dX0_gather_91 : decode cX0_gather 91 = .ok (.invokestatic 41, 3) := by decide +kernel
theorem dX0_gather_94 : decode cX0_gather 94 = .ok (.return_, 1) := by decide +kernel
theorem dX0_lay_0 : decode cX0_lay 0 = .ok (.aload_n 0, 1) := by decide +kernel
theorem dX0_lay_1 : decode cX0_lay 1 = .ok (.getfield 23, 3) := by decide +kernel
theorem dX0_lay_4 : decode cX0_lay 4 = .ok (.iload_n 1, 1) := by decide +kernel
theorem dX0_lay_5 : decode cX0_lay 5 = .ok (.invokevirtual 47, 3) := by decide +kernel
theorem dX0_lay_8 : decode cX0_lay 8 = .ok (.istore_n 3, 1) := by decide +kernel
theorem dX0_lay_9 : decode cX0_lay 9 = .ok (.iconst 0, 1) := by decide +kernel
theorem dX0_lay_10 : decode cX0_lay 10 = .ok (.istore 4, 2) := by decide +kernel
theorem dX0_lay_12 : decode cX0_lay 12 = .ok (.iload 4, 2) := by decide +kernel
theorem dX0_lay_14 : decode cX0_lay 14 = .ok (.iload_n 3, 1) := by decide +kernel
theorem dX0_lay_15 : decode cX0_lay 15 = .ok (.if_icmp .ge 49, 3) := by decide +kernel
theorem dX0_lay_18 : decode cX0_lay 18 = .ok (.aload_n 0, 1) := by decide +kernel
theorem dX0_lay_19 : decode cX0_lay 19 = .ok (.getfield 23, 3) := by decide +kernel
theorem dX0_lay_22 : decode cX0_lay 22 = .ok (.getfield 57, 3) := by decide +kernel
theorem dX0_lay_25 : decode cX0_lay 25 = .ok (.iload_n 1, 1) := by decide +kernel
theorem dX0_lay_26 : decode cX0_lay 26 = .ok (.bipush 16, 2) := by decide +kernel
theorem dX0_lay_28 : decode cX0_lay 28 = .ok (.imul, 1) := by decide +kernel
theorem dX0_lay_29 : decode cX0_lay 29 = .ok (.iload 4, 2) := by decide +kernel
theorem dX0_lay_31 : decode cX0_lay 31 = .ok (.iadd, 1) := by decide +kernel
theorem dX0_lay_32 : decode cX0_lay 32 = .ok (.iaload, 1) := by decide +kernel
theorem dX0_lay_33 : decode cX0_lay 33 = .ok (.sipush 128, 3) := by decide +kernel
theorem dX0_lay_36 : decode cX0_lay 36 = .ok (.imul, 1) := by decide +kernel
theorem dX0_lay_37 : decode cX0_lay 37 = .ok (.istore 5, 2) := by decide +kernel
theorem dX0_lay_39 : decode cX0_lay 39 = .ok (.aload_n 2, 1) := by decide +kernel
theorem dX0_lay_40 : decode cX0_lay 40 = .ok (.iload 4, 2) := by decide +kernel
theorem dX0_lay_42 : decode cX0_lay 42 = .ok (.sipush 128, 3) := by decide +kernel
theorem dX0_lay_45 : decode cX0_lay 45 = .ok (.imul, 1) := by decide +kernel
theorem dX0_lay_46 : decode cX0_lay 46 = .ok (.aload_n 0, 1) := by decide +kernel
theorem dX0_lay_47 : decode cX0_lay 47 = .ok (.getfield 27, 3) := by decide +kernel
theorem dX0_lay_50 : decode cX0_lay 50 = .ok (.iload 5, 2) := by decide +kernel
theorem dX0_lay_52 : decode cX0_lay 52 = .ok (.sipush 128, 3) := by decide +kernel
theorem dX0_lay_55 : decode cX0_lay 55 = .ok (.invokestatic 41, 3) := by decide +kernel
theorem dX0_lay_58 : decode cX0_lay 58 = .ok (.iinc 4 1, 3) := by decide +kernel
theorem dX0_lay_61 : decode cX0_lay 61 = .ok (.goto (-49), 3) := by decide +kernel
theorem dX0_lay_64 : decode cX0_lay 64 = .ok (.aload_n 2, 1) := by decide +kernel
theorem dX0_lay_65 : decode cX0_lay 65 = .ok (.iload_n 3, 1) := by decide +kernel
theorem dX0_lay_66 : decode cX0_lay 66 = .ok (.sipush 128, 3) := by decide +kernel
theorem dX0_lay_69 : decode cX0_lay 69 = .ok (.imul, 1) := by decide +kernel
theorem dX0_lay_70 : decode cX0_lay 70 = .ok (.aload_n 0, 1) := by decide +kernel
theorem dX0_lay_71 : decode cX0_lay 71 = .ok (.getfield 31, 3) := by decide +kernel
theorem dX0_lay_74 : decode cX0_lay 74 = .ok (.iload_n 1, 1) := by decide +kernel
theorem dX0_lay_75 : decode cX0_lay 75 = .ok (.bipush 40, 2) := by decide +kernel
theorem dX0_lay_77 : decode cX0_lay 77 = .ok (.imul, 1) := by decide +kernel
theorem dX0_lay_78 : decode cX0_lay 78 = .ok (.aload_n 0, 1) := by decide +kernel
theorem dX0_lay_79 : decode cX0_lay 79 = .ok (.getfield 23, 3) := by decide +kernel
theorem dX0_lay_82 : decode cX0_lay 82 = .ok (.iload_n 1, 1) := by decide +kernel
theorem dX0_lay_83 : decode cX0_lay 83 = .ok (.invokevirtual 61, 3) := by decide +kernel
theorem dX0_lay_86 : decode cX0_lay 86 = .ok (.invokestatic 41, 3) := by decide +kernel
theorem dX0_lay_89 : decode cX0_lay 89 = .ok (.return_, 1) := by decide +kernel
theorem dX0_byteOf_0 : decode cX0_byteOf 0 = .ok (.iload_n 2, 1) := by decide +kernel
theorem dX0_byteOf_1 : decode cX0_byteOf 1 = .ok (.sipush 128, 3) := by decide +kernel
theorem dX0_byteOf_4 : decode cX0_byteOf 4 = .ok (.idiv, 1) := by decide +kernel
theorem dX0_byteOf_5 : decode cX0_byteOf 5 = .ok (.istore_n 3, 1) := by decide +kernel
theorem dX0_byteOf_6 : decode cX0_byteOf 6 = .ok (.iload_n 2, 1) := by decide +kernel
theorem dX0_byteOf_7 : decode cX0_byteOf 7 = .ok (.sipush 128, 3) := by decide +kernel
theorem dX0_byteOf_10 : decode cX0_byteOf 10 = .ok (.irem, 1) := by decide +kernel
theorem dX0_byteOf_11 : decode cX0_byteOf 11 = .ok (.istore 4, 2) := by decide +kernel
theorem dX0_byteOf_13 : decode cX0_byteOf 13 = .ok (.iload_n 3, 1) := by decide +kernel
theorem dX0_byteOf_14 : decode cX0_byteOf 14 = .ok (.aload_n 0, 1) := by decide +kernel
theorem dX0_byteOf_15 : decode cX0_byteOf 15 = .ok (.getfield 23, 3) := by decide +kernel
theorem dX0_byteOf_18 : decode cX0_byteOf 18 = .ok (.iload_n 1, 1) := by decide +kernel
theorem dX0_byteOf_19 : decode cX0_byteOf 19 = .ok (.invokevirtual 47, 3) := by decide +kernel
theorem dX0_byteOf_22 : decode cX0_byteOf 22 = .ok (.if_icmp .ge 34, 3) := by decide +kernel
theorem dX0_byteOf_25 : decode cX0_byteOf 25 = .ok (.aload_n 0, 1) := by decide +kernel
theorem dX0_byteOf_26 : decode cX0_byteOf 26 = .ok (.getfield 27, 3) := by decide +kernel
theorem dX0_byteOf_29 : decode cX0_byteOf 29 = .ok (.aload_n 0, 1) := by decide +kernel
theorem dX0_byteOf_30 : decode cX0_byteOf 30 = .ok (.getfield 23, 3) := by decide +kernel
theorem dX0_byteOf_33 : decode cX0_byteOf 33 = .ok (.getfield 57, 3) := by decide +kernel
theorem dX0_byteOf_36 : decode cX0_byteOf 36 = .ok (.iload_n 1, 1) := by decide +kernel
theorem dX0_byteOf_37 : decode cX0_byteOf 37 = .ok (.bipush 16, 2) := by decide +kernel
theorem dX0_byteOf_39 : decode cX0_byteOf 39 = .ok (.imul, 1) := by decide +kernel
theorem dX0_byteOf_40 : decode cX0_byteOf 40 = .ok (.iload_n 3, 1) := by decide +kernel
theorem dX0_byteOf_41 : decode cX0_byteOf 41 = .ok (.iadd, 1) := by decide +kernel
theorem dX0_byteOf_42 : decode cX0_byteOf 42 = .ok (.iaload, 1) := by decide +kernel
theorem dX0_byteOf_43 : decode cX0_byteOf 43 = .ok (.sipush 128, 3) := by decide +kernel
theorem dX0_byteOf_46 : decode cX0_byteOf 46 = .ok (.imul, 1) := by decide +kernel
theorem dX0_byteOf_47 : decode cX0_byteOf 47 = .ok (.iload 4, 2) := by decide +kernel
theorem dX0_byteOf_49 : decode cX0_byteOf 49 = .ok (.iadd, 1) := by decide +kernel
theorem dX0_byteOf_50 : decode cX0_byteOf 50 = .ok (.baload, 1) := by decide +kernel
theorem dX0_byteOf_51 : decode cX0_byteOf 51 = .ok (.sipush 255, 3) := by decide +kernel
theorem dX0_byteOf_54 : decode cX0_byteOf 54 = .ok (.iand, 1) := by decide +kernel
theorem dX0_byteOf_55 : decode cX0_byteOf 55 = .ok (.ireturn, 1) := by decide +kernel
theorem dX0_byteOf_56 : decode cX0_byteOf 56 = .ok (.aload_n 0, 1) := by decide +kernel
theorem dX0_byteOf_57 : decode cX0_byteOf 57 = .ok (.getfield 31, 3) := by decide +kernel
theorem dX0_byteOf_60 : decode cX0_byteOf 60 = .ok (.iload_n 1, 1) := by decide +kernel
theorem dX0_byteOf_61 : decode cX0_byteOf 61 = .ok (.bipush 40, 2) := by decide +kernel
theorem dX0_byteOf_63 : decode cX0_byteOf 63 = .ok (.imul, 1) := by decide +kernel
theorem dX0_byteOf_64 : decode cX0_byteOf 64 = .ok (.iload 4, 2) := by decide +kernel
theorem dX0_byteOf_66 : decode cX0_byteOf 66 = .ok (.iadd, 1) := by decide +kernel
theorem dX0_byteOf_67 : decode cX0_byteOf 67 = .ok (.baload, 1) := by decide +kernel
theorem dX0_byteOf_68 : decode cX0_byteOf 68 = .ok (.sipush 255, 3) := by decide +kernel
theorem dX0_byteOf_71 : decode cX0_byteOf 71 = .ok (.iand, 1) := by decide +kernel
theorem dX0_byteOf_72 : decode cX0_byteOf 72 = .ok (.ireturn, 1) := by decide +kernel
theorem dX0_sameBlock_0 : decode cX0_sameBlock 0 = .ok (.aload_n 0, 1) := by decide +kernel
theorem dX0_sameBlock_1 : decode cX0_sameBlock 1 = .ok (.getfield 14, 3) := by decide +kernel
theorem dX0_sameBlock_4 : decode cX0_sameBlock 4 = .ok (.getfield 64, 3) := by decide +kernel
theorem dX0_sameBlock_7 : decode cX0_sameBlock 7 = .ok (.iload_n 1, 1) := by decide +kernel
theorem dX0_sameBlock_8 : decode cX0_sameBlock 8 = .ok (.iaload, 1) := by decide +kernel
theorem dX0_sameBlock_9 : decode cX0_sameBlock 9 = .ok (.aload_n 2, 1) := by decide +kernel
theorem dX0_sameBlock_10 : decode cX0_sameBlock 10 = .ok (.getfield 14, 3) := by decide +kernel
theorem dX0_sameBlock_13 : decode cX0_sameBlock 13 = .ok (.getfield 64, 3) := by decide +kernel
theorem dX0_sameBlock_16 : decode cX0_sameBlock 16 = .ok (.iload_n 1, 1) := by decide +kernel
theorem dX0_sameBlock_17 : decode cX0_sameBlock 17 = .ok (.iaload, 1) := by decide +kernel
theorem dX0_sameBlock_18 : decode cX0_sameBlock 18 = .ok (.if_icmp .eq 5, 3) := by decide +kernel
theorem dX0_sameBlock_21 : decode cX0_sameBlock 21 = .ok (.iconst 0, 1) := by decide +kernel
theorem dX0_sameBlock_22 : decode cX0_sameBlock 22 = .ok (.ireturn, 1) := by decide +kernel
theorem dX0_sameBlock_23 : decode cX0_sameBlock 23 = .ok (.aload_n 0, 1) := by decide +kernel
theorem dX0_sameBlock_24 : decode cX0_sameBlock 24 = .ok (.getfield 14, 3) := by decide +kernel
theorem dX0_sameBlock_27 : decode cX0_sameBlock 27 = .ok (.getfield 64, 3) := by decide +kernel
theorem dX0_sameBlock_30 : decode cX0_sameBlock 30 = .ok (.iload_n 1, 1) := by decide +kernel
theorem dX0_sameBlock_31 : decode cX0_sameBlock 31 = .ok (.iaload, 1) := by decide +kernel
theorem dX0_sameBlock_32 : decode cX0_sameBlock 32 = .ok (.tableswitch 60 1 3 #[28, 40, 47], 28) := by decide +kernel
theorem dX0_sameBlock_60 : decode cX0_sameBlock 60 = .ok (.aload_n 0, 1) := by decide +kernel
theorem dX0_sameBlock_61 : decode cX0_sameBlock 61 = .ok (.getfield 14, 3) := by decide +kernel
theorem dX0_sameBlock_64 : decode cX0_sameBlock 64 = .ok (.aload_n 2, 1) := by decide +kernel
theorem dX0_sameBlock_65 : decode cX0_sameBlock 65 = .ok (.getfield 14, 3) := by decide +kernel
theorem dX0_sameBlock_68 : decode cX0_sameBlock 68 = .ok (.invokevirtual 67, 3) := by decide +kernel
theorem dX0_sameBlock_71 : decode cX0_sameBlock 71 = .ok (.ireturn, 1) := by decide +kernel
theorem dX0_sameBlock_72 : decode cX0_sameBlock 72 = .ok (.aload_n 0, 1) := by decide +kernel
theorem dX0_sameBlock_73 : decode cX0_sameBlock 73 = .ok (.iload_n 1, 1) := by decide +kernel
theorem dX0_sameBlock_74 : decode cX0_sameBlock 74 = .ok (.aload_n 2, 1) := by decide +kernel
theorem dX0_sameBlock_75 : decode cX0_sameBlock 75 = .ok (.invokevirtual 71, 3) := by decide +kernel
theorem dX0_sameBlock_78 : decode cX0_sameBlock 78 = .ok (.ireturn, 1) := by decide +kernel
theorem dX0_sameBlock_79 : decode cX0_sameBlock 79 = .ok (.aload_n 0, 1) := by decide +kernel
theorem dX0_sameBlock_80 : decode cX0_sameBlock 80 = .ok (.getfield 14, 3) := by decide +kernel
theorem dX0_sameBlock_83 : decode cX0_sameBlock 83 = .ok (.iload_n 1, 1) := by decide +kernel
theorem dX0_sameBlock_84 : decode cX0_sameBlock 84 = .ok (.aload_n 2, 1) := by decide +kernel
theorem dX0_sameBlock_85 : decode cX0_sameBlock 85 = .ok (.getfield 14, 3) := by decide +kernel
theorem dX0_sameBlock_88 : decode cX0_sameBlock 88 = .ok (.invokevirtual 75, 3) := by decide +kernel
theorem dX0_sameBlock_91 : decode cX0_sameBlock 91 = .ok (.ireturn, 1) := by decide +kernel
theorem dX0_sameBlock_92 : decode cX0_sameBlock 92 = .ok (.aload_n 0, 1) := by decide +kernel
theorem dX0_sameBlock_93 : decode cX0_sameBlock 93 = .ok (.getfield 27, 3) := by decide +kernel
theorem dX0_sameBlock_96 : decode cX0_sameBlock 96 = .ok (.aload_n 2, 1) := by decide +kernel
theorem dX0_sameBlock_97 : decode cX0_sameBlock 97 = .ok (.getfield 27, 3) := by decide +kernel
theorem dX0_sameBlock_100 : decode cX0_sameBlock 100 = .ok (.iload_n 1, 1) := by decide +kernel
theorem dX0_sameBlock_101 : decode cX0_sameBlock 101 = .ok (.sipush 128, 3) := by decide +kernel
theorem dX0_sameBlock_104 : decode cX0_sameBlock 104 = .ok (.imul, 1) := by decide +kernel
theorem dX0_sameBlock_105 : decode cX0_sameBlock 105 = .ok (.sipush 128, 3) := by decide +kernel
theorem dX0_sameBlock_108 : decode cX0_sameBlock 108 = .ok (.invokestatic 79, 3) := by decide +kernel
theorem dX0_sameBlock_111 : decode cX0_sameBlock 111 = .ok (.ireturn, 1) := by decide +kernel
theorem dX0_sameLeaf_0 : decode cX0_sameLeaf 0 = .ok (.aload_n 0, 1) := by decide +kernel
theorem dX0_sameLeaf_1 : decode cX0_sameLeaf 1 = .ok (.getfield 14, 3) := by decide +kernel
theorem dX0_sameLeaf_4 : decode cX0_sameLeaf 4 = .ok (.iload_n 1, 1) := by decide +kernel
theorem dX0_sameLeaf_5 : decode cX0_sameLeaf 5 = .ok (.aload_n 2, 1) := by decide +kernel
theorem dX0_sameLeaf_6 : decode cX0_sameLeaf 6 = .ok (.getfield 14, 3) := by decide +kernel
theorem dX0_sameLeaf_9 : decode cX0_sameLeaf 9 = .ok (.invokevirtual 83, 3) := by decide +kernel
theorem dX0_sameLeaf_12 : decode cX0_sameLeaf 12 = .ok (.ifCond .ne 5, 3) := by decide +kernel
theorem dX0_sameLeaf_15 : decode cX0_sameLeaf 15 = .ok (.iconst 0, 1) := by decide +kernel
theorem dX0_sameLeaf_16 : decode cX0_sameLeaf 16 = .ok (.ireturn, 1) := by decide +kernel
theorem dX0_sameLeaf_17 : decode cX0_sameLeaf 17 = .ok (.iconst 0, 1) := by decide +kernel
theorem dX0_sameLeaf_18 : decode cX0_sameLeaf 18 = .ok (.istore_n 3, 1) := by decide +kernel
theorem dX0_sameLeaf_19 : decode cX0_sameLeaf 19 = .ok (.iload_n 3, 1) := by decide +kernel
theorem dX0_sameLeaf_20 : decode cX0_sameLeaf 20 = .ok (.aload_n 0, 1) := by decide +kernel
theorem dX0_sameLeaf_21 : decode cX0_sameLeaf 21 = .ok (.getfield 14, 3) := by decide +kernel
theorem dX0_sameLeaf_24 : decode cX0_sameLeaf 24 = .ok (.getfield 86, 3) := by decide +kernel
theorem dX0_sameLeaf_27 : decode cX0_sameLeaf 27 = .ok (.iload_n 1, 1) := by decide +kernel
theorem dX0_sameLeaf_28 : decode cX0_sameLeaf 28 = .ok (.iaload, 1) := by decide +kernel
theorem dX0_sameLeaf_29 : decode cX0_sameLeaf 29 = .ok (.if_icmp .ge 25, 3) := by decide +kernel
theorem dX0_sameLeaf_32 : decode cX0_sameLeaf 32 = .ok (.aload_n 0, 1) := by decide +kernel
theorem dX0_sameLeaf_33 : decode cX0_sameLeaf 33 = .ok (.iload_n 1, 1) := by decide +kernel
theorem dX0_sameLeaf_34 : decode cX0_sameLeaf 34 = .ok (.bipush 14, 2) := by decide +kernel
theorem dX0_sameLeaf_36 : decode cX0_sameLeaf 36 = .ok (.imul, 1) := by decide +kernel
theorem dX0_sameLeaf_37 : decode cX0_sameLeaf 37 = .ok (.iload_n 3, 1) := by decide +kernel
theorem dX0_sameLeaf_38 : decode cX0_sameLeaf 38 = .ok (.iadd, 1) := by decide +kernel
theorem dX0_sameLeaf_39 : decode cX0_sameLeaf 39 = .ok (.aload_n 2, 1) := by decide +kernel
theorem dX0_sameLeaf_40 : decode cX0_sameLeaf 40 = .ok (.invokevirtual 89, 3) := by decide +kernel
theorem dX0_sameLeaf_43 : decode cX0_sameLeaf 43 = .ok (.ifCond .ne 5, 3) := by decide +kernel
theorem dX0_sameLeaf_46 : decode cX0_sameLeaf 46 = .ok (.iconst 0, 1) := by decide +kernel
theorem dX0_sameLeaf_47 : decode cX0_sameLeaf 47 = .ok (.ireturn, 1) := by decide +kernel
theorem dX0_sameLeaf_48 : decode cX0_sameLeaf 48 = .ok (.iinc 3 1, 3) := by decide +kernel
theorem dX0_sameLeaf_51 : decode cX0_sameLeaf 51 = .ok (.goto (-32), 3) := by decide +kernel
theorem dX0_sameLeaf_54 : decode cX0_sameLeaf 54 = .ok (.iconst 1, 1) := by decide +kernel
theorem dX0_sameLeaf_55 : decode cX0_sameLeaf 55 = .ok (.ireturn, 1) := by decide +kernel
theorem dX0_sameBody_0 : decode cX0_sameBody 0 = .ok (.aload_n 0, 1) := by decide +kernel
theorem dX0_sameBody_1 : decode cX0_sameBody 1 = .ok (.getfield 14, 3) := by decide +kernel
theorem dX0_sameBody_4 : decode cX0_sameBody 4 = .ok (.getfield 92, 3) := by decide +kernel
theorem dX0_sameBody_7 : decode cX0_sameBody 7 = .ok (.iload_n 1, 1) := by decide +kernel
theorem dX0_sameBody_8 : decode cX0_sameBody 8 = .ok (.iaload, 1) := by decide +kernel
theorem dX0_sameBody_9 : decode cX0_sameBody 9 = .ok (.invokestatic 95, 3) := by decide +kernel
theorem dX0_sameBody_12 : decode cX0_sameBody 12 = .ok (.istore_n 3, 1) := by decide +kernel
theorem dX0_sameBody_13 : decode cX0_sameBody 13 = .ok (.aload_n 0, 1) := by decide +kernel
theorem dX0_sameBody_14 : decode cX0_sameBody 14 = .ok (.getfield 14, 3) := by decide +kernel
theorem dX0_sameBody_17 : decode cX0_sameBody 17 = .ok (.getfield 92, 3) := by decide +kernel
theorem dX0_sameBody_20 : decode cX0_sameBody 20 = .ok (.iload_n 1, 1) := by decide +kernel
theorem dX0_sameBody_21 : decode cX0_sameBody 21 = .ok (.iaload, 1) := by decide +kernel
theorem dX0_sameBody_22 : decode cX0_sameBody 22 = .ok (.invokestatic 98, 3) := by decide +kernel
theorem dX0_sameBody_25 : decode cX0_sameBody 25 = .ok (.tableswitch 93 0 3 #[31, 93, 44, 68], 31) := by decide +kernel
theorem dX0_sameBody_56 : decode cX0_sameBody 56 = .ok (.aload_n 0, 1) := by decide +kernel
theorem dX0_sameBody_57 : decode cX0_sameBody 57 = .ok (.getfield 23, 3) := by decide +kernel
theorem dX0_sameBody_60 : decode cX0_sameBody 60 = .ok (.iload_n 3, 1) := by decide +kernel
theorem dX0_sameBody_61 : decode cX0_sameBody 61 = .ok (.aload_n 2, 1) := by decide +kernel
theorem dX0_sameBody_62 : decode cX0_sameBody 62 = .ok (.getfield 23, 3) := by decide +kernel
theorem dX0_sameBody_65 : decode cX0_sameBody 65 = .ok (.invokevirtual 101, 3) := by decide +kernel
theorem dX0_sameBody_68 : decode cX0_sameBody 68 = .ok (.ireturn, 1) := by decide +kernel
theorem dX0_sameBody_69 : decode cX0_sameBody 69 = .ok (.aload_n 0, 1) := by decide +kernel
theorem dX0_sameBody_70 : decode cX0_sameBody 70 = .ok (.getfield 23, 3) := by decide +kernel
theorem dX0_sameBody_73 : decode cX0_sameBody 73 = .ok (.iload_n 3, 1) := by decide +kernel
theorem dX0_sameBody_74 : decode cX0_sameBody 74 = .ok (.aload_n 0, 1) := by decide +kernel
theorem dX0_sameBody_75 : decode cX0_sameBody 75 = .ok (.getfield 14, 3) := by decide +kernel
theorem dX0_sameBody_78 : decode cX0_sameBody 78 = .ok (.getfield 105, 3) := by decide +kernel
theorem dX0_sameBody_81 : decode cX0_sameBody 81 = .ok (.iload_n 1, 1) := by decide +kernel
theorem dX0_sameBody_82 : decode cX0_sameBody 82 = .ok (.iaload, 1) := by decide +kernel
theorem dX0_sameBody_83 : decode cX0_sameBody 83 = .ok (.iconst 2, 1) := by decide +kernel
theorem dX0_sameBody_84 : decode cX0_sameBody 84 = .ok (.idiv, 1) := by decide +kernel
theorem dX0_sameBody_85 : decode cX0_sameBody 85 = .ok (.aload_n 2, 1) := by decide +kernel
theorem dX0_sameBody_86 : decode cX0_sameBody 86 = .ok (.getfield 23, 3) := by decide +kernel
theorem dX0_sameBody_89 : decode cX0_sameBody 89 = .ok (.invokevirtual 108, 3) := by decide +kernel
theorem dX0_sameBody_92 : decode cX0_sameBody 92 = .ok (.ireturn, 1) := by decide +kernel
theorem dX0_sameBody_93 : decode cX0_sameBody 93 = .ok (.aload_n 0, 1) := by decide +kernel
theorem dX0_sameBody_94 : decode cX0_sameBody 94 = .ok (.getfield 31, 3) := by decide +kernel
theorem dX0_sameBody_97 : decode cX0_sameBody 97 = .ok (.aload_n 2, 1) := by decide +kernel
theorem dX0_sameBody_98 : decode cX0_sameBody 98 = .ok (.getfield 31, 3) := by decide +kernel
theorem dX0_sameBody_101 : decode cX0_sameBody 101 = .ok (.iload_n 3, 1) := by decide +kernel
theorem dX0_sameBody_102 : decode cX0_sameBody 102 = .ok (.bipush 40, 2) := by decide +kernel
theorem dX0_sameBody_104 : decode cX0_sameBody 104 = .ok (.imul, 1) := by decide +kernel
theorem dX0_sameBody_105 : decode cX0_sameBody 105 = .ok (.aload_n 0, 1) := by decide +kernel
theorem dX0_sameBody_106 : decode cX0_sameBody 106 = .ok (.getfield 14, 3) := by decide +kernel
theorem dX0_sameBody_109 : decode cX0_sameBody 109 = .ok (.getfield 105, 3) := by decide +kernel
theorem dX0_sameBody_112 : decode cX0_sameBody 112 = .ok (.iload_n 1, 1) := by decide +kernel
theorem dX0_sameBody_113 : decode cX0_sameBody 113 = .ok (.iaload, 1) := by decide +kernel
theorem dX0_sameBody_114 : decode cX0_sameBody 114 = .ok (.invokestatic 79, 3) := by decide +kernel
theorem dX0_sameBody_117 : decode cX0_sameBody 117 = .ok (.ireturn, 1) := by decide +kernel
theorem dX0_sameBody_118 : decode cX0_sameBody 118 = .ok (.iconst 1, 1) := by decide +kernel
theorem dX0_sameBody_119 : decode cX0_sameBody 119 = .ok (.ireturn, 1) := by decide +kernel
theorem dX0_sameBytes_0 : decode cX0_sameBytes 0 = .ok (.iload_n 2, 1) := by decide +kernel
theorem dX0_sameBytes_1 : decode cX0_sameBytes 1 = .ok (.istore 4, 2) := by decide +kernel
theorem dX0_sameBytes_3 : decode cX0_sameBytes 3 = .ok (.iload 4, 2) := by decide +kernel
theorem dX0_sameBytes_5 : decode cX0_sameBytes 5 = .ok (.iload_n 2, 1) := by decide +kernel
theorem dX0_sameBytes_6 : decode cX0_sameBytes 6 = .ok (.iload_n 3, 1) := by decide +kernel
theorem dX0_sameBytes_7 : decode cX0_sameBytes 7 = .ok (.iadd, 1) := by decide +kernel
theorem dX0_sameBytes_8 : decode cX0_sameBytes 8 = .ok (.if_icmp .ge 22, 3) := by decide +kernel
theorem dX0_sameBytes_11 : decode cX0_sameBytes 11 = .ok (.aload_n 0, 1) := by decide +kernel
theorem dX0_sameBytes_12 : decode cX0_sameBytes 12 = .ok (.iload 4, 2) := by decide +kernel
theorem dX0_sameBytes_14 : decode cX0_sameBytes 14 = .ok (.baload, 1) := by decide +kernel
theorem dX0_sameBytes_15 : decode cX0_sameBytes 15 = .ok (.aload_n 1, 1) := by decide +kernel
theorem dX0_sameBytes_16 : decode cX0_sameBytes 16 = .ok (.iload 4, 2) := by decide +kernel
theorem dX0_sameBytes_18 : decode cX0_sameBytes 18 = .ok (.baload, 1) := by decide +kernel
theorem dX0_sameBytes_19 : decode cX0_sameBytes 19 = .ok (.if_icmp .eq 5, 3) := by decide +kernel
theorem dX0_sameBytes_22 : decode cX0_sameBytes 22 = .ok (.iconst 0, 1) := by decide +kernel
theorem dX0_sameBytes_23 : decode cX0_sameBytes 23 = .ok (.ireturn, 1) := by decide +kernel
theorem dX0_sameBytes_24 : decode cX0_sameBytes 24 = .ok (.iinc 4 1, 3) := by decide +kernel
theorem dX0_sameBytes_27 : decode cX0_sameBytes 27 = .ok (.goto (-24), 3) := by decide +kernel
theorem dX0_sameBytes_30 : decode cX0_sameBytes 30 = .ok (.iconst 1, 1) := by decide +kernel
theorem dX0_sameBytes_31 : decode cX0_sameBytes 31 = .ok (.ireturn, 1) := by decide +kernel
theorem dX1_init_0 : decode cX1_init 0 = .ok (.aload_n 0, 1) := by decide +kernel
theorem dX1_init_1 : decode cX1_init 1 = .ok (.invokespecial 3, 3) := by decide +kernel
theorem dX1_init_4 : decode cX1_init 4 = .ok (.aload_n 0, 1) := by decide +kernel
theorem dX1_init_5 : decode cX1_init 5 = .ok (.iload_n 1, 1) := by decide +kernel
theorem dX1_init_6 : decode cX1_init 6 = .ok (.putfield 9, 3) := by decide +kernel
theorem dX1_init_9 : decode cX1_init 9 = .ok (.aload_n 0, 1) := by decide +kernel
theorem dX1_init_10 : decode cX1_init 10 = .ok (.iload_n 2, 1) := by decide +kernel
theorem dX1_init_11 : decode cX1_init 11 = .ok (.newarray .boolean, 2) := by decide +kernel
theorem dX1_init_13 : decode cX1_init 13 = .ok (.putfield 15, 3) := by decide +kernel
theorem dX1_init_16 : decode cX1_init 16 = .ok (.return_, 1) := by decide +kernel
theorem dX1_empties_0 : decode cX1_empties 0 = .ok (.aload_n 0, 1) := by decide +kernel
theorem dX1_empties_1 : decode cX1_empties 1 = .ok (.getfield 19, 3) := by decide +kernel
theorem dX1_empties_4 : decode cX1_empties 4 = .ok (.ifCond .ne 5, 3) := by decide +kernel
theorem dX1_empties_7 : decode cX1_empties 7 = .ok (.iconst 1, 1) := by decide +kernel
theorem dX1_empties_8 : decode cX1_empties 8 = .ok (.ireturn, 1) := by decide +kernel
theorem dX1_empties_9 : decode cX1_empties 9 = .ok (.iconst 0, 1) := by decide +kernel
theorem dX1_empties_10 : decode cX1_empties 10 = .ok (.istore_n 2, 1) := by decide +kernel
theorem dX1_empties_11 : decode cX1_empties 11 = .ok (.iload_n 2, 1) := by decide +kernel
theorem dX1_empties_12 : decode cX1_empties 12 = .ok (.aload_n 0, 1) := by decide +kernel
theorem dX1_empties_13 : decode cX1_empties 13 = .ok (.getfield 15, 3) := by decide +kernel
theorem dX1_empties_16 : decode cX1_empties 16 = .ok (.arraylength, 1) := by decide +kernel
theorem dX1_empties_17 : decode cX1_empties 17 = .ok (.if_icmp .ge 27, 3) := by decide +kernel
theorem dX1_empties_20 : decode cX1_empties 20 = .ok (.aload_n 0, 1) := by decide +kernel
theorem dX1_empties_21 : decode cX1_empties 21 = .ok (.getfield 15, 3) := by decide +kernel
theorem dX1_empties_24 : decode cX1_empties 24 = .ok (.iload_n 2, 1) := by decide +kernel
theorem dX1_empties_25 : decode cX1_empties 25 = .ok (.baload, 1) := by decide +kernel
theorem dX1_empties_26 : decode cX1_empties 26 = .ok (.ifCond .eq 12, 3) := by decide +kernel
theorem dX1_empties_29 : decode cX1_empties 29 = .ok (.aload_n 1, 1) := by decide +kernel
theorem dX1_empties_30 : decode cX1_empties 30 = .ok (.invokevirtual 22, 3) := by decide +kernel
theorem dX1_empties_33 : decode cX1_empties 33 = .ok (.ifCond .ne 5, 3) := by decide +kernel
theorem dX1_empties_36 : decode cX1_empties 36 = .ok (.iconst 0, 1) := by decide +kernel
theorem dX1_empties_37 : decode cX1_empties 37 = .ok (.ireturn, 1) := by decide +kernel
theorem dX1_empties_38 : decode cX1_empties 38 = .ok (.iinc 2 1, 3) := by decide +kernel
theorem dX1_empties_41 : decode cX1_empties 41 = .ok (.goto (-30), 3) := by decide +kernel
theorem dX1_empties_44 : decode cX1_empties 44 = .ok (.aload_n 1, 1) := by decide +kernel
theorem dX1_empties_45 : decode cX1_empties 45 = .ok (.invokevirtual 22, 3) := by decide +kernel
theorem dX1_empties_48 : decode cX1_empties 48 = .ok (.ifCond .ne 5, 3) := by decide +kernel
theorem dX1_empties_51 : decode cX1_empties 51 = .ok (.iconst 0, 1) := by decide +kernel
theorem dX1_empties_52 : decode cX1_empties 52 = .ok (.ireturn, 1) := by decide +kernel
theorem dX1_empties_53 : decode cX1_empties 53 = .ok (.iconst 0, 1) := by decide +kernel
theorem dX1_empties_54 : decode cX1_empties 54 = .ok (.istore_n 2, 1) := by decide +kernel
theorem dX1_empties_55 : decode cX1_empties 55 = .ok (.iload_n 2, 1) := by decide +kernel
theorem dX1_empties_56 : decode cX1_empties 56 = .ok (.aload_n 0, 1) := by decide +kernel
theorem dX1_empties_57 : decode cX1_empties 57 = .ok (.getfield 15, 3) := by decide +kernel
theorem dX1_empties_60 : decode cX1_empties 60 = .ok (.arraylength, 1) := by decide +kernel
theorem dX1_empties_61 : decode cX1_empties 61 = .ok (.if_icmp .ge 16, 3) := by decide +kernel
theorem dX1_empties_64 : decode cX1_empties 64 = .ok (.aload_n 0, 1) := by decide +kernel
theorem dX1_empties_65 : decode cX1_empties 65 = .ok (.getfield 15, 3) := by decide +kernel
theorem dX1_empties_68 : decode cX1_empties 68 = .ok (.iload_n 2, 1) := by decide +kernel
theorem dX1_empties_69 : decode cX1_empties 69 = .ok (.iconst 0, 1) := by decide +kernel
theorem dX1_empties_70 : decode cX1_empties 70 = .ok (.bastore, 1) := by decide +kernel
theorem dX1_empties_71 : decode cX1_empties 71 = .ok (.iinc 2 1, 3) := by decide +kernel
theorem dX1_empties_74 : decode cX1_empties 74 = .ok (.goto (-19), 3) := by decide +kernel
theorem dX1_empties_77 : decode cX1_empties 77 = .ok (.aload_n 0, 1) := by decide +kernel
theorem dX1_empties_78 : decode cX1_empties 78 = .ok (.iconst 0, 1) := by decide +kernel
theorem dX1_empties_79 : decode cX1_empties 79 = .ok (.putfield 19, 3) := by decide +kernel
theorem dX1_empties_82 : decode cX1_empties 82 = .ok (.iconst 1, 1) := by decide +kernel
theorem dX1_empties_83 : decode cX1_empties 83 = .ok (.ireturn, 1) := by decide +kernel
theorem dX1_takes_0 : decode cX1_takes 0 = .ok (.iconst 2, 1) := by decide +kernel
theorem dX1_takes_1 : decode cX1_takes 1 = .ok (.istore_n 3, 1) := by decide +kernel
theorem dX1_takes_2 : decode cX1_takes 2 = .ok (.aload_n 2, 1) := by decide +kernel
theorem dX1_takes_3 : decode cX1_takes 3 = .ok (.invokevirtual 22, 3) := by decide +kernel
theorem dX1_takes_6 : decode cX1_takes 6 = .ok (.ifCond .ne 5, 3) := by decide +kernel
theorem dX1_takes_9 : decode cX1_takes 9 = .ok (.iconst 0, 1) := by decide +kernel
theorem dX1_takes_10 : decode cX1_takes 10 = .ok (.ireturn, 1) := by decide +kernel
theorem dX1_takes_11 : decode cX1_takes 11 = .ok (.iconst 0, 1) := by decide +kernel
theorem dX1_takes_12 : decode cX1_takes 12 = .ok (.istore 4, 2) := by decide +kernel
theorem dX1_takes_14 : decode cX1_takes 14 = .ok (.iload 4, 2) := by decide +kernel
theorem dX1_takes_16 : decode cX1_takes 16 = .ok (.aload_n 1, 1) := by decide +kernel
theorem dX1_takes_17 : decode cX1_takes 17 = .ok (.arraylength, 1) := by decide +kernel
theorem dX1_takes_18 : decode cX1_takes 18 = .ok (.if_icmp .ge 28, 3) := by decide +kernel
theorem dX1_takes_21 : decode cX1_takes 21 = .ok (.aload_n 1, 1) := by decide +kernel
theorem dX1_takes_22 : decode cX1_takes 22 = .ok (.iload 4, 2) := by decide +kernel
theorem dX1_takes_24 : decode cX1_takes 24 = .ok (.baload, 1) := by decide +kernel
theorem dX1_takes_25 : decode cX1_takes 25 = .ok (.ifCond .eq 15, 3) := by decide +kernel
theorem dX1_takes_28 : decode cX1_takes 28 = .ok (.iinc 3 1, 3) := by decide +kernel
theorem dX1_takes_31 : decode cX1_takes 31 = .ok (.aload_n 2, 1) := by decide +kernel
theorem dX1_takes_32 : decode cX1_takes 32 = .ok (.invokevirtual 22, 3) := by decide +kernel
theorem dX1_takes_35 : decode cX1_takes 35 = .ok (.ifCond .ne 5, 3) := by decide +kernel
theorem dX1_takes_38 : decode cX1_takes 38 = .ok (.iconst 0, 1) := by decide +kernel
theorem dX1_takes_39 : decode cX1_takes 39 = .ok (.ireturn, 1) := by decide +kernel
theorem dX1_takes_40 : decode cX1_takes 40 = .ok (.iinc 4 1, 3) := by decide +kernel
theorem dX1_takes_43 : decode cX1_takes 43 = .ok (.goto (-29), 3) := by decide +kernel
theorem dX1_takes_46 : decode cX1_takes 46 = .ok (.aload_n 2, 1) := by decide +kernel
theorem dX1_takes_47 : decode cX1_takes 47 = .ok (.invokevirtual 22, 3) := by decide +kernel
theorem dX1_takes_50 : decode cX1_takes 50 = .ok (.ifCond .ne 5, 3) := by decide +kernel
theorem dX1_takes_53 : decode cX1_takes 53 = .ok (.iconst 0, 1) := by decide +kernel
theorem dX1_takes_54 : decode cX1_takes 54 = .ok (.ireturn, 1) := by decide +kernel
theorem dX1_takes_55 : decode cX1_takes 55 = .ok (.iconst 0, 1) := by decide +kernel
theorem dX1_takes_56 : decode cX1_takes 56 = .ok (.istore 4, 2) := by decide +kernel
theorem dX1_takes_58 : decode cX1_takes 58 = .ok (.iload 4, 2) := by decide +kernel
theorem dX1_takes_60 : decode cX1_takes 60 = .ok (.aload_n 0, 1) := by decide +kernel
theorem dX1_takes_61 : decode cX1_takes 61 = .ok (.getfield 15, 3) := by decide +kernel
theorem dX1_takes_64 : decode cX1_takes 64 = .ok (.arraylength, 1) := by decide +kernel
theorem dX1_takes_65 : decode cX1_takes 65 = .ok (.if_icmp .ge 45, 3) := by decide +kernel
theorem dX1_takes_68 : decode cX1_takes 68 = .ok (.iload 4, 2) := by decide +kernel
theorem dX1_takes_70 : decode cX1_takes 70 = .ok (.aload_n 1, 1) := by decide +kernel
theorem dX1_takes_71 : decode cX1_takes 71 = .ok (.arraylength, 1) := by decide +kernel
theorem dX1_takes_72 : decode cX1_takes 72 = .ok (.if_icmp .ge 38, 3) := by decide +kernel
theorem dX1_takes_75 : decode cX1_takes 75 = .ok (.aload_n 0, 1) := by decide +kernel
theorem dX1_takes_76 : decode cX1_takes 76 = .ok (.getfield 15, 3) := by decide +kernel
theorem dX1_takes_79 : decode cX1_takes 79 = .ok (.iload 4, 2) := by decide +kernel
theorem dX1_takes_81 : decode cX1_takes 81 = .ok (.aload_n 0, 1) := by decide +kernel
theorem dX1_takes_82 : decode cX1_takes 82 = .ok (.getfield 15, 3) := by decide +kernel
theorem dX1_takes_85 : decode cX1_takes 85 = .ok (.iload 4, 2) := by decide +kernel
theorem dX1_takes_87 : decode cX1_takes 87 = .ok (.baload, 1) := by decide +kernel
theorem dX1_takes_88 : decode cX1_takes 88 = .ok (.ifCond .ne 10, 3) := by decide +kernel
theorem dX1_takes_91 : decode cX1_takes 91 = .ok (.aload_n 1, 1) := by decide +kernel
theorem dX1_takes_92 : decode cX1_takes 92 = .ok (.iload 4, 2) := by decide +kernel
theorem dX1_takes_94 : decode cX1_takes 94 = .ok (.baload, 1) := by decide +kernel
theorem dX1_takes_95 : decode cX1_takes 95 = .ok (.ifCond .eq 7, 3) := by decide +kernel
theorem dX1_takes_98 : decode cX1_takes 98 = .ok (.iconst 1, 1) := by decide +kernel
theorem dX1_takes_99 : decode cX1_takes 99 = .ok (.goto 4, 3) := by decide +kernel
theorem dX1_takes_102 : decode cX1_takes 102 = .ok (.iconst 0, 1) := by decide +kernel
theorem dX1_takes_103 : decode cX1_takes 103 = .ok (.bastore, 1) := by decide +kernel
theorem dX1_takes_104 : decode cX1_takes 104 = .ok (.iinc 4 1, 3) := by decide +kernel
theorem dX1_takes_107 : decode cX1_takes 107 = .ok (.goto (-49), 3) := by decide +kernel
theorem dX1_takes_110 : decode cX1_takes 110 = .ok (.aload_n 0, 1) := by decide +kernel
theorem dX1_takes_111 : decode cX1_takes 111 = .ok (.dup, 1) := by decide +kernel
theorem dX1_takes_112 : decode cX1_takes 112 = .ok (.getfield 19, 3) := by decide +kernel
theorem dX1_takes_115 : decode cX1_takes 115 = .ok (.iload_n 3, 1) := by decide +kernel
theorem dX1_takes_116 : decode cX1_takes 116 = .ok (.iadd, 1) := by decide +kernel
theorem dX1_takes_117 : decode cX1_takes 117 = .ok (.putfield 19, 3) := by decide +kernel
theorem dX1_takes_120 : decode cX1_takes 120 = .ok (.aload_n 0, 1) := by decide +kernel
theorem dX1_takes_121 : decode cX1_takes 121 = .ok (.dup, 1) := by decide +kernel
theorem dX1_takes_122 : decode cX1_takes 122 = .ok (.getfield 28, 3) := by decide +kernel
theorem dX1_takes_125 : decode cX1_takes 125 = .ok (.iconst 1, 1) := by decide +kernel
theorem dX1_takes_126 : decode cX1_takes 126 = .ok (.iadd, 1) := by decide +kernel
theorem dX1_takes_127 : decode cX1_takes 127 = .ok (.putfield 28, 3) := by decide +kernel
theorem dX1_takes_130 : decode cX1_takes 130 = .ok (.iconst 1, 1) := by decide +kernel
theorem dX1_takes_131 : decode cX1_takes 131 = .ok (.ireturn, 1) := by decide +kernel
theorem dX2_init_0 : decode cX2_init 0 = .ok (.aload_n 0, 1) := by decide +kernel
theorem dX2_init_1 : decode cX2_init 1 = .ok (.invokespecial 3, 3) := by decide +kernel
theorem dX2_init_4 : decode cX2_init 4 = .ok (.aload_n 0, 1) := by decide +kernel
theorem dX2_init_5 : decode cX2_init 5 = .ok (.bipush 61, 2) := by decide +kernel
theorem dX2_init_7 : decode cX2_init 7 = .ok (.newarray .int, 2) := by decide +kernel
theorem dX2_init_9 : decode cX2_init 9 = .ok (.putfield 9, 3) := by decide +kernel
theorem dX2_init_12 : decode cX2_init 12 = .ok (.aload_n 0, 1) := by decide +kernel
theorem dX2_init_13 : decode cX2_init 13 = .ok (.bipush 61, 2) := by decide +kernel
theorem dX2_init_15 : decode cX2_init 15 = .ok (.newarray .int, 2) := by decide +kernel
theorem dX2_init_17 : decode cX2_init 17 = .ok (.putfield 15, 3) := by decide +kernel
theorem dX2_init_20 : decode cX2_init 20 = .ok (.aload_n 0, 1) := by decide +kernel
theorem dX2_init_21 : decode cX2_init 21 = .ok (.bipush 61, 2) := by decide +kernel
theorem dX2_init_23 : decode cX2_init 23 = .ok (.newarray .int, 2) := by decide +kernel
theorem dX2_init_25 : decode cX2_init 25 = .ok (.putfield 18, 3) := by decide +kernel
theorem dX2_init_28 : decode cX2_init 28 = .ok (.aload_n 0, 1) := by decide +kernel
theorem dX2_init_29 : decode cX2_init 29 = .ok (.bipush 61, 2) := by decide +kernel
theorem dX2_init_31 : decode cX2_init 31 = .ok (.newarray .int, 2) := by decide +kernel
theorem dX2_init_33 : decode cX2_init 33 = .ok (.putfield 21, 3) := by decide +kernel
theorem dX2_init_36 : decode cX2_init 36 = .ok (.aload_n 0, 1) := by decide +kernel
theorem dX2_init_37 : decode cX2_init 37 = .ok (.sipush 976, 3) := by decide +kernel
theorem dX2_init_40 : decode cX2_init 40 = .ok (.newarray .int, 2) := by decide +kernel
theorem dX2_init_42 : decode cX2_init 42 = .ok (.putfield 24, 3) := by decide +kernel
theorem dX2_init_45 : decode cX2_init 45 = .ok (.aload_n 0, 1) := by decide +kernel
theorem dX2_init_46 : decode cX2_init 46 = .ok (.getfield 9, 3) := by decide +kernel
theorem dX2_init_49 : decode cX2_init 49 = .ok (.iconst (-1), 1) := by decide +kernel
theorem dX2_init_50 : decode cX2_init 50 = .ok (.invokestatic 27, 3) := by decide +kernel
theorem dX2_init_53 : decode cX2_init 53 = .ok (.aload_n 0, 1) := by decide +kernel
theorem dX2_init_54 : decode cX2_init 54 = .ok (.getfield 9, 3) := by decide +kernel
theorem dX2_init_57 : decode cX2_init 57 = .ok (.iconst 1, 1) := by decide +kernel
theorem dX2_init_58 : decode cX2_init 58 = .ok (.iconst 0, 1) := by decide +kernel
theorem dX2_init_59 : decode cX2_init 59 = .ok (.iastore, 1) := by decide +kernel
theorem dX2_init_60 : decode cX2_init 60 = .ok (.aload_n 0, 1) := by decide +kernel
theorem dX2_init_61 : decode cX2_init 61 = .ok (.getfield 15, 3) := by decide +kernel
theorem dX2_init_64 : decode cX2_init 64 = .ok (.iconst 1, 1) := by decide +kernel
theorem dX2_init_65 : decode cX2_init 65 = .ok (.iconst 1, 1) := by decide +kernel
theorem dX2_init_66 : decode cX2_init 66 = .ok (.iastore, 1) := by decide +kernel
theorem dX2_init_67 : decode cX2_init 67 = .ok (.aload_n 0, 1) := by decide +kernel
theorem dX2_init_68 : decode cX2_init 68 = .ok (.getfield 21, 3) := by decide +kernel
theorem dX2_init_71 : decode cX2_init 71 = .ok (.iconst 1, 1) := by decide +kernel
theorem dX2_init_72 : decode cX2_init 72 = .ok (.iconst (-1), 1) := by decide +kernel
theorem dX2_init_73 : decode cX2_init 73 = .ok (.iastore, 1) := by decide +kernel
theorem dX2_init_74 : decode cX2_init 74 = .ok (.return_, 1) := by decide +kernel
theorem dX2_copyFrom_0 : decode cX2_copyFrom 0 = .ok (.aload_n 1, 1) := by decide +kernel
theorem dX2_copyFrom_1 : decode cX2_copyFrom 1 = .ok (.getfield 9, 3) := by decide +kernel
theorem dX2_copyFrom_4 : decode cX2_copyFrom 4 = .ok (.iconst 0, 1) := by decide +kernel
theorem dX2_copyFrom_5 : decode cX2_copyFrom 5 = .ok (.aload_n 0, 1) := by decide +kernel
theorem dX2_copyFrom_6 : decode cX2_copyFrom 6 = .ok (.getfield 9, 3) := by decide +kernel
theorem dX2_copyFrom_9 : decode cX2_copyFrom 9 = .ok (.iconst 0, 1) := by decide +kernel
theorem dX2_copyFrom_10 : decode cX2_copyFrom 10 = .ok (.aload_n 0, 1) := by decide +kernel
theorem dX2_copyFrom_11 : decode cX2_copyFrom 11 = .ok (.getfield 9, 3) := by decide +kernel
theorem dX2_copyFrom_14 : decode cX2_copyFrom 14 = .ok (.arraylength, 1) := by decide +kernel
theorem dX2_copyFrom_15 : decode cX2_copyFrom 15 = .ok (.invokestatic 33, 3) := by decide +kernel
theorem dX2_copyFrom_18 : decode cX2_copyFrom 18 = .ok (.aload_n 1, 1) := by decide +kernel
theorem dX2_copyFrom_19 : decode cX2_copyFrom 19 = .ok (.getfield 15, 3) := by decide +kernel
theorem dX2_copyFrom_22 : decode cX2_copyFrom 22 = .ok (.iconst 0, 1) := by decide +kernel
theorem dX2_copyFrom_23 : decode cX2_copyFrom 23 = .ok (.aload_n 0, 1) := by decide +kernel
theorem dX2_copyFrom_24 : decode cX2_copyFrom 24 = .ok (.getfield 15, 3) := by decide +kernel
theorem dX2_copyFrom_27 : decode cX2_copyFrom 27 = .ok (.iconst 0, 1) := by decide +kernel
theorem dX2_copyFrom_28 : decode cX2_copyFrom 28 = .ok (.aload_n 0, 1) := by decide +kernel
theorem dX2_copyFrom_29 : decode cX2_copyFrom 29 = .ok (.getfield 15, 3) := by decide +kernel
theorem dX2_copyFrom_32 : decode cX2_copyFrom 32 = .ok (.arraylength, 1) := by decide +kernel
theorem dX2_copyFrom_33 : decode cX2_copyFrom 33 = .ok (.invokestatic 33, 3) := by decide +kernel
theorem dX2_copyFrom_36 : decode cX2_copyFrom 36 = .ok (.aload_n 1, 1) := by decide +kernel
theorem dX2_copyFrom_37 : decode cX2_copyFrom 37 = .ok (.getfield 18, 3) := by decide +kernel
theorem dX2_copyFrom_40 : decode cX2_copyFrom 40 = .ok (.iconst 0, 1) := by decide +kernel
theorem dX2_copyFrom_41 : decode cX2_copyFrom 41 = .ok (.aload_n 0, 1) := by decide +kernel
theorem dX2_copyFrom_42 : decode cX2_copyFrom 42 = .ok (.getfield 18, 3) := by decide +kernel
theorem dX2_copyFrom_45 : decode cX2_copyFrom 45 = .ok (.iconst 0, 1) := by decide +kernel
theorem dX2_copyFrom_46 : decode cX2_copyFrom 46 = .ok (.aload_n 0, 1) := by decide +kernel
theorem dX2_copyFrom_47 : decode cX2_copyFrom 47 = .ok (.getfield 18, 3) := by decide +kernel
theorem dX2_copyFrom_50 : decode cX2_copyFrom 50 = .ok (.arraylength, 1) := by decide +kernel
theorem dX2_copyFrom_51 : decode cX2_copyFrom 51 = .ok (.invokestatic 33, 3) := by decide +kernel
theorem dX2_copyFrom_54 : decode cX2_copyFrom 54 = .ok (.aload_n 1, 1) := by decide +kernel
theorem dX2_copyFrom_55 : decode cX2_copyFrom 55 = .ok (.getfield 21, 3) := by decide +kernel
theorem dX2_copyFrom_58 : decode cX2_copyFrom 58 = .ok (.iconst 0, 1) := by decide +kernel
theorem dX2_copyFrom_59 : decode cX2_copyFrom 59 = .ok (.aload_n 0, 1) := by decide +kernel
theorem dX2_copyFrom_60 : decode cX2_copyFrom 60 = .ok (.getfield 21, 3) := by decide +kernel
theorem dX2_copyFrom_63 : decode cX2_copyFrom 63 = .ok (.iconst 0, 1) := by decide +kernel
theorem dX2_copyFrom_64 : decode cX2_copyFrom 64 = .ok (.aload_n 0, 1) := by decide +kernel
theorem dX2_copyFrom_65 : decode cX2_copyFrom 65 = .ok (.getfield 21, 3) := by decide +kernel
theorem dX2_copyFrom_68 : decode cX2_copyFrom 68 = .ok (.arraylength, 1) := by decide +kernel
theorem dX2_copyFrom_69 : decode cX2_copyFrom 69 = .ok (.invokestatic 33, 3) := by decide +kernel
theorem dX2_copyFrom_72 : decode cX2_copyFrom 72 = .ok (.aload_n 1, 1) := by decide +kernel
theorem dX2_copyFrom_73 : decode cX2_copyFrom 73 = .ok (.getfield 24, 3) := by decide +kernel
theorem dX2_copyFrom_76 : decode cX2_copyFrom 76 = .ok (.iconst 0, 1) := by decide +kernel
theorem dX2_copyFrom_77 : decode cX2_copyFrom 77 = .ok (.aload_n 0, 1) := by decide +kernel
theorem dX2_copyFrom_78 : decode cX2_copyFrom 78 = .ok (.getfield 24, 3) := by decide +kernel
theorem dX2_copyFrom_81 : decode cX2_copyFrom 81 = .ok (.iconst 0, 1) := by decide +kernel
theorem dX2_copyFrom_82 : decode cX2_copyFrom 82 = .ok (.aload_n 0, 1) := by decide +kernel
theorem dX2_copyFrom_83 : decode cX2_copyFrom 83 = .ok (.getfield 24, 3) := by decide +kernel
theorem dX2_copyFrom_86 : decode cX2_copyFrom 86 = .ok (.arraylength, 1) := by decide +kernel
theorem dX2_copyFrom_87 : decode cX2_copyFrom 87 = .ok (.invokestatic 33, 3) := by decide +kernel
theorem dX2_copyFrom_90 : decode cX2_copyFrom 90 = .ok (.return_, 1) := by decide +kernel
theorem dX2_begin_0 : decode cX2_begin 0 = .ok (.aload_n 0, 1) := by decide +kernel
theorem dX2_begin_1 : decode cX2_begin 1 = .ok (.getfield 9, 3) := by decide +kernel
theorem dX2_begin_4 : decode cX2_begin 4 = .ok (.iload_n 1, 1) := by decide +kernel
theorem dX2_begin_5 : decode cX2_begin 5 = .ok (.iload_n 2, 1) := by decide +kernel
theorem dX2_begin_6 : decode cX2_begin 6 = .ok (.iastore, 1) := by decide +kernel
theorem dX2_begin_7 : decode cX2_begin 7 = .ok (.aload_n 0, 1) := by decide +kernel
theorem dX2_begin_8 : decode cX2_begin 8 = .ok (.getfield 15, 3) := by decide +kernel
theorem dX2_begin_11 : decode cX2_begin 11 = .ok (.iload_n 1, 1) := by decide +kernel
theorem dX2_begin_12 : decode cX2_begin 12 = .ok (.iconst 1, 1) := by decide +kernel
theorem dX2_begin_13 : decode cX2_begin 13 = .ok (.iastore, 1) := by decide +kernel
theorem dX2_begin_14 : decode cX2_begin 14 = .ok (.aload_n 0, 1) := by decide +kernel
theorem dX2_begin_15 : decode cX2_begin 15 = .ok (.getfield 18, 3) := by decide +kernel
theorem dX2_begin_18 : decode cX2_begin 18 = .ok (.iload_n 1, 1) := by decide +kernel
theorem dX2_begin_19 : decode cX2_begin 19 = .ok (.iconst 0, 1) := by decide +kernel
theorem dX2_begin_20 : decode cX2_begin 20 = .ok (.iastore, 1) := by decide +kernel
theorem dX2_begin_21 : decode cX2_begin 21 = .ok (.aload_n 0, 1) := by decide +kernel
theorem dX2_begin_22 : decode cX2_begin 22 = .ok (.getfield 21, 3) := by decide +kernel
theorem dX2_begin_25 : decode cX2_begin 25 = .ok (.iload_n 1, 1) := by decide +kernel
theorem dX2_begin_26 : decode cX2_begin 26 = .ok (.iload_n 3, 1) := by decide +kernel
theorem dX2_begin_27 : decode cX2_begin 27 = .ok (.iastore, 1) := by decide +kernel
theorem dX2_begin_28 : decode cX2_begin 28 = .ok (.return_, 1) := by decide +kernel
theorem dX2_isThere_0 : decode cX2_isThere 0 = .ok (.iload_n 1, 1) := by decide +kernel
theorem dX2_isThere_1 : decode cX2_isThere 1 = .ok (.iconst 1, 1) := by decide +kernel
theorem dX2_isThere_2 : decode cX2_isThere 2 = .ok (.if_icmp .lt 23, 3) := by decide +kernel
theorem dX2_isThere_5 : decode cX2_isThere 5 = .ok (.iload_n 1, 1) := by decide +kernel
theorem dX2_isThere_6 : decode cX2_isThere 6 = .ok (.bipush 60, 2) := by decide +kernel
theorem dX2_isThere_8 : decode cX2_isThere 8 = .ok (.if_icmp .gt 17, 3) := by decide +kernel
theorem dX2_isThere_11 : decode cX2_isThere 11 = .ok (.aload_n 0, 1) := by decide +kernel
theorem dX2_isThere_12 : decode cX2_isThere 12 = .ok (.getfield 9, 3) := by decide +kernel
theorem dX2_isThere_15 : decode cX2_isThere 15 = .ok (.iload_n 1, 1) := by decide +kernel
theorem dX2_isThere_16 : decode cX2_isThere 16 = .ok (.iaload, 1) := by decide +kernel
theorem dX2_isThere_17 : decode cX2_isThere 17 = .ok (.iconst (-1), 1) := by decide +kernel
theorem dX2_isThere_18 : decode cX2_isThere 18 = .ok (.if_icmp .eq 7, 3) := by decide +kernel
theorem dX2_isThere_21 : decode cX2_isThere 21 = .ok (.iconst 1, 1) := by decide +kernel
theorem dX2_isThere_22 : decode cX2_isThere 22 = .ok (.goto 4, 3) := by decide +kernel
theorem dX2_isThere_25 : decode cX2_isThere 25 = .ok (.iconst 0, 1) := by decide +kernel
theorem dX2_isThere_26 : decode cX2_isThere 26 = .ok (.ireturn, 1) := by decide +kernel
theorem dX2_leastFree_0 : decode cX2_leastFree 0 = .ok (.iconst 1, 1) := by decide +kernel
theorem dX2_leastFree_1 : decode cX2_leastFree 1 = .ok (.istore_n 1, 1) := by decide +kernel
theorem dX2_leastFree_2 : decode cX2_leastFree 2 = .ok (.iload_n 1, 1) := by decide +kernel
theorem dX2_leastFree_3 : decode cX2_leastFree 3 = .ok (.bipush 60, 2) := by decide +kernel
theorem dX2_leastFree_5 : decode cX2_leastFree 5 = .ok (.if_icmp .gt 21, 3) := by decide +kernel
theorem dX2_leastFree_8 : decode cX2_leastFree 8 = .ok (.aload_n 0, 1) := by decide +kernel
theorem dX2_leastFree_9 : decode cX2_leastFree 9 = .ok (.getfield 9, 3) := by decide +kernel
theorem dX2_leastFree_12 : decode cX2_leastFree 12 = .ok (.iload_n 1, 1) := by decide +kernel
theorem dX2_leastFree_13 : decode cX2_leastFree 13 = .ok (.iaload, 1) := by decide +kernel
theorem dX2_leastFree_14 : decode cX2_leastFree 14 = .ok (.iconst (-1), 1) := by decide +kernel
theorem dX2_leastFree_15 : decode cX2_leastFree 15 = .ok (.if_icmp .ne 5, 3) := by decide +kernel
theorem dX2_leastFree_18 : decode cX2_leastFree 18 = .ok (.iload_n 1, 1) := by decide +kernel
theorem dX2_leastFree_19 : decode cX2_leastFree 19 = .ok (.ireturn, 1) := by decide +kernel
theorem dX2_leastFree_20 : decode cX2_leastFree 20 = .ok (.iinc 1 1, 3) := by decide +kernel
theorem dX2_leastFree_23 : decode cX2_leastFree 23 = .ok (.goto (-21), 3) := by decide +kernel
theorem dX2_leastFree_26 : decode cX2_leastFree 26 = .ok (.iconst (-1), 1) := by decide +kernel
theorem dX2_leastFree_27 : decode cX2_leastFree 27 = .ok (.ireturn, 1) := by decide +kernel
theorem dX2_howMany_0 : decode cX2_howMany 0 = .ok (.iconst 0, 1) := by decide +kernel
theorem dX2_howMany_1 : decode cX2_howMany 1 = .ok (.istore_n 1, 1) := by decide +kernel
theorem dX2_howMany_2 : decode cX2_howMany 2 = .ok (.iconst 1, 1) := by decide +kernel
theorem dX2_howMany_3 : decode cX2_howMany 3 = .ok (.istore_n 2, 1) := by decide +kernel
theorem dX2_howMany_4 : decode cX2_howMany 4 = .ok (.iload_n 2, 1) := by decide +kernel
theorem dX2_howMany_5 : decode cX2_howMany 5 = .ok (.bipush 60, 2) := by decide +kernel
theorem dX2_howMany_7 : decode cX2_howMany 7 = .ok (.if_icmp .gt 22, 3) := by decide +kernel
theorem dX2_howMany_10 : decode cX2_howMany 10 = .ok (.aload_n 0, 1) := by decide +kernel
theorem dX2_howMany_11 : decode cX2_howMany 11 = .ok (.getfield 9, 3) := by decide +kernel
theorem dX2_howMany_14 : decode cX2_howMany 14 = .ok (.iload_n 2, 1) := by decide +kernel
theorem dX2_howMany_15 : decode cX2_howMany 15 = .ok (.iaload, 1) := by decide +kernel
theorem dX2_howMany_16 : decode cX2_howMany 16 = .ok (.iconst (-1), 1) := by decide +kernel
theorem dX2_howMany_17 : decode cX2_howMany 17 = .ok (.if_icmp .eq 6, 3) := by decide +kernel
theorem dX2_howMany_20 : decode cX2_howMany 20 = .ok (.iinc 1 1, 3) := by decide +kernel
theorem dX2_howMany_23 : decode cX2_howMany 23 = .ok (.iinc 2 1, 3) := by decide +kernel
theorem dX2_howMany_26 : decode cX2_howMany 26 = .ok (.goto (-22), 3) := by decide +kernel
theorem dX2_howMany_29 : decode cX2_howMany 29 = .ok (.iload_n 1, 1) := by decide +kernel
theorem dX2_howMany_30 : decode cX2_howMany 30 = .ok (.ireturn, 1) := by decide +kernel
theorem dX2_dataOf_0 : decode cX2_dataOf 0 = .ok (.aload_n 0, 1) := by decide +kernel
theorem dX2_dataOf_1 : decode cX2_dataOf 1 = .ok (.getfield 9, 3) := by decide +kernel
theorem dX2_dataOf_4 : decode cX2_dataOf 4 = .ok (.iload_n 1, 1) := by decide +kernel
theorem dX2_dataOf_5 : decode cX2_dataOf 5 = .ok (.iaload, 1) := by decide +kernel
theorem dX2_dataOf_6 : decode cX2_dataOf 6 = .ok (.iconst 1, 1) := by decide +kernel
theorem dX2_dataOf_7 : decode cX2_dataOf 7 = .ok (.if_icmp .ne 15, 3) := by decide +kernel
theorem dX2_dataOf_10 : decode cX2_dataOf 10 = .ok (.aload_n 0, 1) := by decide +kernel
theorem dX2_dataOf_11 : decode cX2_dataOf 11 = .ok (.getfield 18, 3) := by decide +kernel
theorem dX2_dataOf_14 : decode cX2_dataOf 14 = .ok (.iload_n 1, 1) := by decide +kernel
theorem dX2_dataOf_15 : decode cX2_dataOf 15 = .ok (.iaload, 1) := by decide +kernel
theorem dX2_dataOf_16 : decode cX2_dataOf 16 = .ok (.invokestatic 39, 3) := by decide +kernel
theorem dX2_dataOf_19 : decode cX2_dataOf 19 = .ok (.goto 4, 3) := by decide +kernel
theorem dX2_dataOf_22 : decode cX2_dataOf 22 = .ok (.iconst 0, 1) := by decide +kernel
theorem dX2_dataOf_23 : decode cX2_dataOf 23 = .ok (.ireturn, 1) := by decide +kernel
theorem dX2_tailOf_0 : decode cX2_tailOf 0 = .ok (.aload_n 0, 1) := by decide +kernel
theorem dX2_tailOf_1 : decode cX2_tailOf 1 = .ok (.getfield 9, 3) := by decide +kernel
theorem dX2_tailOf_4 : decode cX2_tailOf 4 = .ok (.iload_n 1, 1) := by decide +kernel
theorem dX2_tailOf_5 : decode cX2_tailOf 5 = .ok (.iaload, 1) := by decide +kernel
theorem dX2_tailOf_6 : decode cX2_tailOf 6 = .ok (.iconst 1, 1) := by decide +kernel
theorem dX2_tailOf_7 : decode cX2_tailOf 7 = .ok (.if_icmp .ne 15, 3) := by decide +kernel
theorem dX2_tailOf_10 : decode cX2_tailOf 10 = .ok (.aload_n 0, 1) := by decide +kernel
theorem dX2_tailOf_11 : decode cX2_tailOf 11 = .ok (.getfield 18, 3) := by decide +kernel
theorem dX2_tailOf_14 : decode cX2_tailOf 14 = .ok (.iload_n 1, 1) := by decide +kernel
theorem dX2_tailOf_15 : decode cX2_tailOf 15 = .ok (.iaload, 1) := by decide +kernel
theorem dX2_tailOf_16 : decode cX2_tailOf 16 = .ok (.invokestatic 43, 3) := by decide +kernel
theorem dX2_tailOf_19 : decode cX2_tailOf 19 = .ok (.goto 4, 3) := by decide +kernel
theorem dX2_tailOf_22 : decode cX2_tailOf 22 = .ok (.iconst 0, 1) := by decide +kernel
theorem dX2_tailOf_23 : decode cX2_tailOf 23 = .ok (.ireturn, 1) := by decide +kernel
theorem dX2_holds_0 : decode cX2_holds 0 = .ok (.iload_n 2, 1) := by decide +kernel
theorem dX2_holds_1 : decode cX2_holds 1 = .ok (.istore_n 3, 1) := by decide +kernel
theorem dX2_holds_2 : decode cX2_holds 2 = .ok (.iconst 0, 1) := by decide +kernel
theorem dX2_holds_3 : decode cX2_holds 3 = .ok (.istore 4, 2) := by decide +kernel
theorem dX2_holds_5 : decode cX2_holds 5 = .ok (.iload 4, 2) := by decide +kernel
theorem dX2_holds_7 : decode cX2_holds 7 = .ok (.bipush 60, 2) := by decide +kernel
theorem dX2_holds_9 : decode cX2_holds 9 = .ok (.if_icmp .ge 28, 3) := by decide +kernel
theorem dX2_holds_12 : decode cX2_holds 12 = .ok (.iload_n 3, 1) := by decide +kernel
theorem dX2_holds_13 : decode cX2_holds 13 = .ok (.iconst (-1), 1) := by decide +kernel
theorem dX2_holds_14 : decode cX2_holds 14 = .ok (.if_icmp .eq 23, 3) := by decide +kernel
theorem dX2_holds_17 : decode cX2_holds 17 = .ok (.iload_n 3, 1) := by decide +kernel
theorem dX2_holds_18 : decode cX2_holds 18 = .ok (.iload_n 1, 1) := by decide +kernel
theorem dX2_holds_19 : decode cX2_holds 19 = .ok (.if_icmp .ne 5, 3) := by decide +kernel
theorem dX2_holds_22 : decode cX2_holds 22 = .ok (.iconst 1, 1) := by decide +kernel
theorem dX2_holds_23 : decode cX2_holds 23 = .ok (.ireturn, 1) := by decide +kernel
theorem dX2_holds_24 : decode cX2_holds 24 = .ok (.aload_n 0, 1) := by decide +kernel
theorem dX2_holds_25 : decode cX2_holds 25 = .ok (.getfield 21, 3) := by decide +kernel
theorem dX2_holds_28 : decode cX2_holds 28 = .ok (.iload_n 3, 1) := by decide +kernel
theorem dX2_holds_29 : decode cX2_holds 29 = .ok (.iaload, 1) := by decide +kernel
theorem dX2_holds_30 : decode cX2_holds 30 = .ok (.istore_n 3, 1) := by decide +kernel
theorem dX2_holds_31 : decode cX2_holds 31 = .ok (.iinc 4 1, 3) := by decide +kernel
theorem dX2_holds_34 : decode cX2_holds 34 = .ok (.goto (-29), 3) := by decide +kernel
theorem dX2_holds_37 : decode cX2_holds 37 = .ok (.iconst 0, 1) := by decide +kernel
theorem dX2_holds_38 : decode cX2_holds 38 = .ok (.ireturn, 1) := by decide +kernel
theorem dX2_sameStat_0 : decode cX2_sameStat 0 = .ok (.aload_n 0, 1) := by decide +kernel
theorem dX2_sameStat_1 : decode cX2_sameStat 1 = .ok (.getfield 9, 3) := by decide +kernel
theorem dX2_sameStat_4 : decode cX2_sameStat 4 = .ok (.iload_n 1, 1) := by decide +kernel
theorem dX2_sameStat_5 : decode cX2_sameStat 5 = .ok (.iaload, 1) := by decide +kernel
theorem dX2_sameStat_6 : decode cX2_sameStat 6 = .ok (.aload_n 2, 1) := by decide +kernel
theorem dX2_sameStat_7 : decode cX2_sameStat 7 = .ok (.getfield 9, 3) := by decide +kernel
theorem dX2_sameStat_10 : decode cX2_sameStat 10 = .ok (.iload_n 1, 1) := by decide +kernel
theorem dX2_sameStat_11 : decode cX2_sameStat 11 = .ok (.iaload, 1) := by decide +kernel
theorem dX2_sameStat_12 : decode cX2_sameStat 12 = .ok (.if_icmp .ne 37, 3) := by decide +kernel
theorem dX2_sameStat_15 : decode cX2_sameStat 15 = .ok (.aload_n 0, 1) := by decide +kernel
theorem dX2_sameStat_16 : decode cX2_sameStat 16 = .ok (.getfield 15, 3) := by decide +kernel
theorem dX2_sameStat_19 : decode cX2_sameStat 19 = .ok (.iload_n 1, 1) := by decide +kernel
theorem dX2_sameStat_20 : decode cX2_sameStat 20 = .ok (.iaload, 1) := by decide +kernel
theorem dX2_sameStat_21 : decode cX2_sameStat 21 = .ok (.aload_n 2, 1) := by decide +kernel
theorem dX2_sameStat_22 : decode cX2_sameStat 22 = .ok (.getfield 15, 3) := by decide +kernel
theorem dX2_sameStat_25 : decode cX2_sameStat 25 = .ok (.iload_n 1, 1) := by decide +kernel
theorem dX2_sameStat_26 : decode cX2_sameStat 26 = .ok (.iaload, 1) := by decide +kernel
theorem dX2_sameStat_27 : decode cX2_sameStat 27 = .ok (.if_icmp .ne 22, 3) := by decide +kernel
theorem dX2_sameStat_30 : decode cX2_sameStat 30 = .ok (.aload_n 0, 1) := by decide +kernel
theorem dX2_sameStat_31 : decode cX2_sameStat 31 = .ok (.getfield 18, 3) := by decide +kernel
theorem dX2_sameStat_34 : decode cX2_sameStat 34 = .ok (.iload_n 1, 1) := by decide +kernel
theorem dX2_sameStat_35 : decode cX2_sameStat 35 = .ok (.iaload, 1) := by decide +kernel
theorem dX2_sameStat_36 : decode cX2_sameStat 36 = .ok (.aload_n 2, 1) := by decide +kernel
theorem dX2_sameStat_37 : decode cX2_sameStat 37 = .ok (.getfield 18, 3) := by decide +kernel
theorem dX2_sameStat_40 : decode cX2_sameStat 40 = .ok (.iload_n 1, 1) := by decide +kernel
theorem dX2_sameStat_41 : decode cX2_sameStat 41 = .ok (.iaload, 1) := by decide +kernel
theorem dX2_sameStat_42 : decode cX2_sameStat 42 = .ok (.if_icmp .ne 7, 3) := by decide +kernel
theorem dX2_sameStat_45 : decode cX2_sameStat 45 = .ok (.iconst 1, 1) := by decide +kernel
theorem dX2_sameStat_46 : decode cX2_sameStat 46 = .ok (.goto 4, 3) := by decide +kernel
theorem dX2_sameStat_49 : decode cX2_sameStat 49 = .ok (.iconst 0, 1) := by decide +kernel
theorem dX2_sameStat_50 : decode cX2_sameStat 50 = .ok (.ireturn, 1) := by decide +kernel
theorem dX2_samePointers_0 : decode cX2_samePointers 0 = .ok (.iload_n 1, 1) := by decide +kernel
theorem dX2_samePointers_1 : decode cX2_samePointers 1 = .ok (.bipush 16, 2) := by decide +kernel
theorem dX2_samePointers_3 : decode cX2_samePointers 3 = .ok (.imul, 1) := by decide +kernel
theorem dX2_samePointers_4 : decode cX2_samePointers 4 = .ok (.istore 4, 2) := by decide +kernel
theorem dX2_samePointers_6 : decode cX2_samePointers 6 = .ok (.iload 4, 2) := by decide +kernel
theorem dX2_samePointers_8 : decode cX2_samePointers 8 = .ok (.iload_n 1, 1) := by decide +kernel
theorem dX2_samePointers_9 : decode cX2_samePointers 9 = .ok (.bipush 16, 2) := by decide +kernel
theorem dX2_samePointers_11 : decode cX2_samePointers 11 = .ok (.imul, 1) := by decide +kernel
theorem dX2_samePointers_12 : decode cX2_samePointers 12 = .ok (.iload_n 2, 1) := by decide +kernel
theorem dX2_samePointers_13 : decode cX2_samePointers 13 = .ok (.iadd, 1) := by decide +kernel
theorem dX2_samePointers_14 : decode cX2_samePointers 14 = .ok (.if_icmp .ge 28, 3) := by decide +kernel
theorem dX2_samePointers_17 : decode cX2_samePointers 17 = .ok (.aload_n 0, 1) := by decide +kernel
theorem dX2_samePointers_18 : decode cX2_samePointers 18 = .ok (.getfield 24, 3) := by decide +kernel
theorem dX2_samePointers_21 : decode cX2_samePointers 21 = .ok (.iload 4, 2) := by decide +kernel
theorem dX2_samePointers_23 : decode cX2_samePointers 23 = .ok (.iaload, 1) := by decide +kernel
theorem dX2_samePointers_24 : decode cX2_samePointers 24 = .ok (.aload_n 3, 1) := by decide +kernel
theorem dX2_samePointers_25 : decode cX2_samePointers 25 = .ok (.getfield 24, 3) := by decide +kernel
theorem dX2_samePointers_28 : decode cX2_samePointers 28 = .ok (.iload 4, 2) := by decide +kernel
theorem dX2_samePointers_30 : decode cX2_samePointers 30 = .ok (.iaload, 1) := by decide +kernel
theorem dX2_samePointers_31 : decode cX2_samePointers 31 = .ok (.if_icmp .eq 5, 3) := by decide +kernel
theorem dX2_samePointers_34 : decode cX2_samePointers 34 = .ok (.iconst 0, 1) := by decide +kernel
theorem dX2_samePointers_35 : decode cX2_samePointers 35 = .ok (.ireturn, 1) := by decide +kernel
theorem dX2_samePointers_36 : decode cX2_samePointers 36 = .ok (.iinc 4 1, 3) := by decide +kernel
theorem dX2_samePointers_39 : decode cX2_samePointers 39 = .ok (.goto (-33), 3) := by decide +kernel
theorem dX2_samePointers_42 : decode cX2_samePointers 42 = .ok (.iconst 1, 1) := by decide +kernel
theorem dX2_samePointers_43 : decode cX2_samePointers 43 = .ok (.ireturn, 1) := by decide +kernel
theorem dX3_init_0 : decode cX3_init 0 = .ok (.aload_n 0, 1) := by decide +kernel
theorem dX3_init_1 : decode cX3_init 1 = .ok (.invokespecial 3, 3) := by decide +kernel
theorem dX3_init_4 : decode cX3_init 4 = .ok (.aload_n 0, 1) := by decide +kernel
theorem dX3_init_5 : decode cX3_init 5 = .ok (.iconst 0, 1) := by decide +kernel
theorem dX3_init_6 : decode cX3_init 6 = .ok (.putfield 9, 3) := by decide +kernel
theorem dX3_init_9 : decode cX3_init 9 = .ok (.aload_n 0, 1) := by decide +kernel
theorem dX3_init_10 : decode cX3_init 10 = .ok (.iconst (-1), 1) := by decide +kernel
theorem dX3_init_11 : decode cX3_init 11 = .ok (.putfield 15, 3) := by decide +kernel
theorem dX3_init_14 : decode cX3_init 14 = .ok (.aload_n 0, 1) := by decide +kernel
theorem dX3_init_15 : decode cX3_init 15 = .ok (.iconst 0, 1) := by decide +kernel
theorem dX3_init_16 : decode cX3_init 16 = .ok (.putfield 19, 3) := by decide +kernel
theorem dX3_init_19 : decode cX3_init 19 = .ok (.return_, 1) := by decide +kernel
theorem dX3_writesOne_0 : decode cX3_writesOne 0 = .ok (.aload_n 0, 1) := by decide +kernel
theorem dX3_writesOne_1 : decode cX3_writesOne 1 = .ok (.getfield 15, 3) := by decide +kernel
theorem dX3_writesOne_4 : decode cX3_writesOne 4 = .ok (.ifCond .ne 15, 3) := by decide +kernel
theorem dX3_writesOne_7 : decode cX3_writesOne 7 = .ok (.aload_n 0, 1) := by decide +kernel
theorem dX3_writesOne_8 : decode cX3_writesOne 8 = .ok (.iconst 1, 1) := by decide +kernel
theorem dX3_writesOne_9 : decode cX3_writesOne 9 = .ok (.putfield 9, 3) := by decide +kernel
theorem dX3_writesOne_12 : decode cX3_writesOne 12 = .ok (.aload_n 0, 1) := by decide +kernel
theorem dX3_writesOne_13 : decode cX3_writesOne 13 = .ok (.iconst (-1), 1) := by decide +kernel
theorem dX3_writesOne_14 : decode cX3_writesOne 14 = .ok (.putfield 15, 3) := by decide +kernel
theorem dX3_writesOne_17 : decode cX3_writesOne 17 = .ok (.iconst 0, 1) := by decide +kernel
theorem dX3_writesOne_18 : decode cX3_writesOne 18 = .ok (.ireturn, 1) := by decide +kernel
theorem dX3_writesOne_19 : decode cX3_writesOne 19 = .ok (.aload_n 0, 1) := by decide +kernel
theorem dX3_writesOne_20 : decode cX3_writesOne 20 = .ok (.getfield 15, 3) := by decide +kernel
theorem dX3_writesOne_23 : decode cX3_writesOne 23 = .ok (.ifCond .le 13, 3) := by decide +kernel
theorem dX3_writesOne_26 : decode cX3_writesOne 26 = .ok (.aload_n 0, 1) := by decide +kernel
theorem dX3_writesOne_27 : decode cX3_writesOne 27 = .ok (.dup, 1) := by decide +kernel
theorem dX3_writesOne_28 : decode cX3_writesOne 28 = .ok (.getfield 15, 3) := by decide +kernel
theorem dX3_writesOne_31 : decode cX3_writesOne 31 = .ok (.iconst 1, 1) := by decide +kernel
theorem dX3_writesOne_32 : decode cX3_writesOne 32 = .ok (.isub, 1) := by decide +kernel
theorem dX3_writesOne_33 : decode cX3_writesOne 33 = .ok (.putfield 15, 3) := by decide +kernel
theorem dX3_writesOne_36 : decode cX3_writesOne 36 = .ok (.aload_n 0, 1) := by decide +kernel
theorem dX3_writesOne_37 : decode cX3_writesOne 37 = .ok (.dup, 1) := by decide +kernel
theorem dX3_writesOne_38 : decode cX3_writesOne 38 = .ok (.getfield 19, 3) := by decide +kernel
theorem dX3_writesOne_41 : decode cX3_writesOne 41 = .ok (.iconst 1, 1) := by decide +kernel
theorem dX3_writesOne_42 : decode cX3_writesOne 42 = .ok (.iadd, 1) := by decide +kernel
theorem dX3_writesOne_43 : decode cX3_writesOne 43 = .ok (.putfield 19, 3) := by decide +kernel
theorem dX3_writesOne_46 : decode cX3_writesOne 46 = .ok (.iconst 1, 1) := by decide +kernel
theorem dX3_writesOne_47 : decode cX3_writesOne 47 = .ok (.ireturn, 1) := by decide +kernel
theorem dX4_init_0 : decode cX4_init 0 = .ok (.aload_n 0, 1) := by decide +kernel
theorem dX4_init_1 : decode cX4_init 1 = .ok (.invokespecial 3, 3) := by decide +kernel
theorem dX4_init_4 : decode cX4_init 4 = .ok (.aload_n 0, 1) := by decide +kernel
theorem dX4_init_5 : decode cX4_init 5 = .ok (.iload_n 1, 1) := by decide +kernel
theorem dX4_init_6 : decode cX4_init 6 = .ok (.putfield 9, 3) := by decide +kernel
theorem dX4_init_9 : decode cX4_init 9 = .ok (.aload_n 0, 1) := by decide +kernel
theorem dX4_init_10 : decode cX4_init 10 = .ok (.iload_n 1, 1) := by decide +kernel
theorem dX4_init_11 : decode cX4_init 11 = .ok (.newarray .int, 2) := by decide +kernel
theorem dX4_init_13 : decode cX4_init 13 = .ok (.putfield 15, 3) := by decide +kernel
theorem dX4_init_16 : decode cX4_init 16 = .ok (.aload_n 0, 1) := by decide +kernel
theorem dX4_init_17 : decode cX4_init 17 = .ok (.iload_n 1, 1) := by decide +kernel
theorem dX4_init_18 : decode cX4_init 18 = .ok (.newarray .int, 2) := by decide +kernel
theorem dX4_init_20 : decode cX4_init 20 = .ok (.putfield 19, 3) := by decide +kernel
theorem dX4_init_23 : decode cX4_init 23 = .ok (.aload_n 0, 1) := by decide +kernel
theorem dX4_init_24 : decode cX4_init 24 = .ok (.iload_n 1, 1) := by decide +kernel
theorem dX4_init_25 : decode cX4_init 25 = .ok (.newarray .int, 2) := by decide +kernel
theorem dX4_init_27 : decode cX4_init 27 = .ok (.putfield 22, 3) := by decide +kernel
theorem dX4_init_30 : decode cX4_init 30 = .ok (.aload_n 0, 1) := by decide +kernel
theorem dX4_init_31 : decode cX4_init 31 = .ok (.iload_n 1, 1) := by decide +kernel
theorem dX4_init_32 : decode cX4_init 32 = .ok (.newarray .int, 2) := by decide +kernel
theorem dX4_init_34 : decode cX4_init 34 = .ok (.putfield 25, 3) := by decide +kernel
theorem dX4_init_37 : decode cX4_init 37 = .ok (.aload_n 0, 1) := by decide +kernel
theorem dX4_init_38 : decode cX4_init 38 = .ok (.iload_n 1, 1) := by decide +kernel
theorem dX4_init_39 : decode cX4_init 39 = .ok (.newarray .int, 2) := by decide +kernel
theorem dX4_init_41 : decode cX4_init 41 = .ok (.putfield 28, 3) := by decide +kernel
theorem dX4_init_44 : decode cX4_init 44 = .ok (.aload_n 0, 1) := by decide +kernel
theorem dX4_init_45 : decode cX4_init 45 = .ok (.iload_n 1, 1) := by decide +kernel
theorem dX4_init_46 : decode cX4_init 46 = .ok (.newarray .int, 2) := by decide +kernel
theorem dX4_init_48 : decode cX4_init 48 = .ok (.putfield 31, 3) := by decide +kernel
theorem dX4_init_51 : decode cX4_init 51 = .ok (.aload_n 0, 1) := by decide +kernel
theorem dX4_init_52 : decode cX4_init 52 = .ok (.iload_n 1, 1) := by decide +kernel
theorem dX4_init_53 : decode cX4_init 53 = .ok (.newarray .int, 2) := by decide +kernel
theorem dX4_init_55 : decode cX4_init 55 = .ok (.putfield 34, 3) := by decide +kernel
theorem dX4_init_58 : decode cX4_init 58 = .ok (.aload_n 0, 1) := by decide +kernel
theorem dX4_init_59 : decode cX4_init 59 = .ok (.iload_n 1, 1) := by decide +kernel
theorem dX4_init_60 : decode cX4_init 60 = .ok (.bipush 6, 2) := by decide +kernel
theorem dX4_init_62 : decode cX4_init 62 = .ok (.imul, 1) := by decide +kernel
theorem dX4_init_63 : decode cX4_init 63 = .ok (.newarray .int, 2) := by decide +kernel
theorem dX4_init_65 : decode cX4_init 65 = .ok (.putfield 37, 3) := by decide +kernel
theorem dX4_init_68 : decode cX4_init 68 = .ok (.aload_n 0, 1) := by decide +kernel
theorem dX4_init_69 : decode cX4_init 69 = .ok (.iload_n 1, 1) := by decide +kernel
theorem dX4_init_70 : decode cX4_init 70 = .ok (.bipush 14, 2) := by decide +kernel
theorem dX4_init_72 : decode cX4_init 72 = .ok (.imul, 1) := by decide +kernel
theorem dX4_init_73 : decode cX4_init 73 = .ok (.newarray .int, 2) := by decide +kernel
theorem dX4_init_75 : decode cX4_init 75 = .ok (.putfield 40, 3) := by decide +kernel
theorem dX4_init_78 : decode cX4_init 78 = .ok (.aload_n 0, 1) := by decide +kernel
theorem dX4_init_79 : decode cX4_init 79 = .ok (.iload_n 1, 1) := by decide +kernel
theorem dX4_init_80 : decode cX4_init 80 = .ok (.bipush 14, 2) := by decide +kernel
theorem dX4_init_82 : decode cX4_init 82 = .ok (.imul, 1) := by decide +kernel
theorem dX4_init_83 : decode cX4_init 83 = .ok (.newarray .int, 2) := by decide +kernel
theorem dX4_init_85 : decode cX4_init 85 = .ok (.putfield 43, 3) := by decide +kernel
theorem dX4_init_88 : decode cX4_init 88 = .ok (.aload_n 0, 1) := by decide +kernel
theorem dX4_init_89 : decode cX4_init 89 = .ok (.iload_n 1, 1) := by decide +kernel
theorem dX4_init_90 : decode cX4_init 90 = .ok (.bipush 14, 2) := by decide +kernel
theorem dX4_init_92 : decode cX4_init 92 = .ok (.imul, 1) := by decide +kernel
theorem dX4_init_93 : decode cX4_init 93 = .ok (.newarray .int, 2) := by decide +kernel
theorem dX4_init_95 : decode cX4_init 95 = .ok (.putfield 46, 3) := by decide +kernel
theorem dX4_init_98 : decode cX4_init 98 = .ok (.aload_n 0, 1) := by decide +kernel
theorem dX4_init_99 : decode cX4_init 99 = .ok (.getfield 15, 3) := by decide +kernel
theorem dX4_init_102 : decode cX4_init 102 = .ok (.iconst 0, 1) := by decide +kernel
theorem dX4_init_103 : decode cX4_init 103 = .ok (.iconst 1, 1) := by decide +kernel
theorem dX4_init_104 : decode cX4_init 104 = .ok (.iastore, 1) := by decide +kernel
theorem dX4_init_105 : decode cX4_init 105 = .ok (.aload_n 0, 1) := by decide +kernel
theorem dX4_init_106 : decode cX4_init 106 = .ok (.aload_n 0, 1) := by decide +kernel
theorem dX4_init_107 : decode cX4_init 107 = .ok (.iconst 2, 1) := by decide +kernel
theorem dX4_init_108 : decode cX4_init 108 = .ok (.invokevirtual 49, 3) := by decide +kernel
theorem dX4_init_111 : decode cX4_init 111 = .ok (.putfield 53, 3) := by decide +kernel
theorem dX4_init_114 : decode cX4_init 114 = .ok (.aload_n 0, 1) := by decide +kernel
theorem dX4_init_115 : decode cX4_init 115 = .ok (.aload_n 0, 1) := by decide +kernel
theorem dX4_init_116 : decode cX4_init 116 = .ok (.getfield 53, 3) := by decide +kernel
theorem dX4_init_119 : decode cX4_init 119 = .ok (.iconst 0, 1) := by decide +kernel
theorem dX4_init_120 : decode cX4_init 120 = .ok (.iconst 1, 1) := by decide +kernel
theorem dX4_init_121 : decode cX4_init 121 = .ok (.iconst 0, 1) := by decide +kernel
theorem dX4_init_122 : decode cX4_init 122 = .ok (.iconst 0, 1) := by decide +kernel
theorem dX4_init_123 : decode cX4_init 123 = .ok (.invokestatic 56, 3) := by decide +kernel
theorem dX4_init_126 : decode cX4_init 126 = .ok (.bipush 6, 2) := by decide +kernel
theorem dX4_init_128 : decode cX4_init 128 = .ok (.iconst (-1), 1) := by decide +kernel
theorem dX4_init_129 : decode cX4_init 129 = .ok (.invokevirtual 60, 3) := by decide +kernel
theorem dX4_init_132 : decode cX4_init 132 = .ok (.return_, 1) := by decide +kernel
theorem dX4_copyFrom_0 : decode cX4_copyFrom 0 = .ok (.aload_n 1, 1) := by decide +kernel
theorem dX4_copyFrom_1 : decode cX4_copyFrom 1 = .ok (.getfield 15, 3) := by decide +kernel
theorem dX4_copyFrom_4 : decode cX4_copyFrom 4 = .ok (.iconst 0, 1) := by decide +kernel
theorem dX4_copyFrom_5 : decode cX4_copyFrom 5 = .ok (.aload_n 0, 1) := by decide +kernel
theorem dX4_copyFrom_6 : decode cX4_copyFrom 6 = .ok (.getfield 15, 3) := by decide +kernel
theorem dX4_copyFrom_9 : decode cX4_copyFrom 9 = .ok (.iconst 0, 1) := by decide +kernel
theorem dX4_copyFrom_10 : decode cX4_copyFrom 10 = .ok (.aload_n 0, 1) := by decide +kernel
theorem dX4_copyFrom_11 : decode cX4_copyFrom 11 = .ok (.getfield 15, 3) := by decide +kernel
theorem dX4_copyFrom_14 : decode cX4_copyFrom 14 = .ok (.arraylength, 1) := by decide +kernel
theorem dX4_copyFrom_15 : decode cX4_copyFrom 15 = .ok (.invokestatic 64, 3) := by decide +kernel
theorem dX4_copyFrom_18 : decode cX4_copyFrom 18 = .ok (.aload_n 1, 1) := by decide +kernel
theorem dX4_copyFrom_19 : decode cX4_copyFrom 19 = .ok (.getfield 19, 3) := by decide +kernel
theorem dX4_copyFrom_22 : decode cX4_copyFrom 22 = .ok (.iconst 0, 1) := by decide +kernel
theorem dX4_copyFrom_23 : decode cX4_copyFrom 23 = .ok (.aload_n 0, 1) := by decide +kernel
theorem dX4_copyFrom_24 : decode cX4_copyFrom 24 = .ok (.getfield 19, 3) := by decide +kernel
theorem dX4_copyFrom_27 : decode cX4_copyFrom 27 = .ok (.iconst 0, 1) := by decide +kernel
theorem dX4_copyFrom_28 : decode cX4_copyFrom 28 = .ok (.aload_n 0, 1) := by decide +kernel
theorem dX4_copyFrom_29 : decode cX4_copyFrom 29 = .ok (.getfield 19, 3) := by decide +kernel
theorem dX4_copyFrom_32 : decode cX4_copyFrom 32 = .ok (.arraylength, 1) := by decide +kernel
theorem dX4_copyFrom_33 : decode cX4_copyFrom 33 = .ok (.invokestatic 64, 3) := by decide +kernel
theorem dX4_copyFrom_36 : decode cX4_copyFrom 36 = .ok (.aload_n 1, 1) := by decide +kernel
theorem dX4_copyFrom_37 : decode cX4_copyFrom 37 = .ok (.getfield 22, 3) := by decide +kernel
theorem dX4_copyFrom_40 : decode cX4_copyFrom 40 = .ok (.iconst 0, 1) := by decide +kernel
theorem dX4_copyFrom_41 : decode cX4_copyFrom 41 = .ok (.aload_n 0, 1) := by decide +kernel
theorem dX4_copyFrom_42 : decode cX4_copyFrom 42 = .ok (.getfield 22, 3) := by decide +kernel
theorem dX4_copyFrom_45 : decode cX4_copyFrom 45 = .ok (.iconst 0, 1) := by decide +kernel
theorem dX4_copyFrom_46 : decode cX4_copyFrom 46 = .ok (.aload_n 0, 1) := by decide +kernel
theorem dX4_copyFrom_47 : decode cX4_copyFrom 47 = .ok (.getfield 22, 3) := by decide +kernel
theorem dX4_copyFrom_50 : decode cX4_copyFrom 50 = .ok (.arraylength, 1) := by decide +kernel
theorem dX4_copyFrom_51 : decode cX4_copyFrom 51 = .ok (.invokestatic 64, 3) := by decide +kernel
theorem dX4_copyFrom_54 : decode cX4_copyFrom 54 = .ok (.aload_n 1, 1) := by decide +kernel
theorem dX4_copyFrom_55 : decode cX4_copyFrom 55 = .ok (.getfield 25, 3) := by decide +kernel
theorem dX4_copyFrom_58 : decode cX4_copyFrom 58 = .ok (.iconst 0, 1) := by decide +kernel
theorem dX4_copyFrom_59 : decode cX4_copyFrom 59 = .ok (.aload_n 0, 1) := by decide +kernel
theorem dX4_copyFrom_60 : decode cX4_copyFrom 60 = .ok (.getfield 25, 3) := by decide +kernel
theorem dX4_copyFrom_63 : decode cX4_copyFrom 63 = .ok (.iconst 0, 1) := by decide +kernel
theorem dX4_copyFrom_64 : decode cX4_copyFrom 64 = .ok (.aload_n 0, 1) := by decide +kernel
theorem dX4_copyFrom_65 : decode cX4_copyFrom 65 = .ok (.getfield 25, 3) := by decide +kernel
theorem dX4_copyFrom_68 : decode cX4_copyFrom 68 = .ok (.arraylength, 1) := by decide +kernel
theorem dX4_copyFrom_69 : decode cX4_copyFrom 69 = .ok (.invokestatic 64, 3) := by decide +kernel
theorem dX4_copyFrom_72 : decode cX4_copyFrom 72 = .ok (.aload_n 1, 1) := by decide +kernel
theorem dX4_copyFrom_73 : decode cX4_copyFrom 73 = .ok (.getfield 28, 3) := by decide +kernel
theorem dX4_copyFrom_76 : decode cX4_copyFrom 76 = .ok (.iconst 0, 1) := by decide +kernel
theorem dX4_copyFrom_77 : decode cX4_copyFrom 77 = .ok (.aload_n 0, 1) := by decide +kernel
theorem dX4_copyFrom_78 : decode cX4_copyFrom 78 = .ok (.getfield 28, 3) := by decide +kernel
theorem dX4_copyFrom_81 : decode cX4_copyFrom 81 = .ok (.iconst 0, 1) := by decide +kernel
theorem dX4_copyFrom_82 : decode cX4_copyFrom 82 = .ok (.aload_n 0, 1) := by decide +kernel
theorem dX4_copyFrom_83 : decode cX4_copyFrom 83 = .ok (.getfield 28, 3) := by decide +kernel
theorem dX4_copyFrom_86 : decode cX4_copyFrom 86 = .ok (.arraylength, 1) := by decide +kernel
theorem dX4_copyFrom_87 : decode cX4_copyFrom 87 = .ok (.invokestatic 64, 3) := by decide +kernel
theorem dX4_copyFrom_90 : decode cX4_copyFrom 90 = .ok (.aload_n 1, 1) := by decide +kernel
theorem dX4_copyFrom_91 : decode cX4_copyFrom 91 = .ok (.getfield 31, 3) := by decide +kernel
theorem dX4_copyFrom_94 : decode cX4_copyFrom 94 = .ok (.iconst 0, 1) := by decide +kernel
theorem dX4_copyFrom_95 : decode cX4_copyFrom 95 = .ok (.aload_n 0, 1) := by decide +kernel
theorem dX4_copyFrom_96 : decode cX4_copyFrom 96 = .ok (.getfield 31, 3) := by decide +kernel
theorem dX4_copyFrom_99 : decode cX4_copyFrom 99 = .ok (.iconst 0, 1) := by decide +kernel
theorem dX4_copyFrom_100 : decode cX4_copyFrom 100 = .ok (.aload_n 0, 1) := by decide +kernel
theorem dX4_copyFrom_101 : decode cX4_copyFrom 101 = .ok (.getfield 31, 3) := by decide +kernel
theorem dX4_copyFrom_104 : decode cX4_copyFrom 104 = .ok (.arraylength, 1) := by decide +kernel
theorem dX4_copyFrom_105 : decode cX4_copyFrom 105 = .ok (.invokestatic 64, 3) := by decide +kernel
theorem dX4_copyFrom_108 : decode cX4_copyFrom 108 = .ok (.aload_n 1, 1) := by decide +kernel
theorem dX4_copyFrom_109 : decode cX4_copyFrom 109 = .ok (.getfield 34, 3) := by decide +kernel
theorem dX4_copyFrom_112 : decode cX4_copyFrom 112 = .ok (.iconst 0, 1) := by decide +kernel
theorem dX4_copyFrom_113 : decode cX4_copyFrom 113 = .ok (.aload_n 0, 1) := by decide +kernel
theorem dX4_copyFrom_114 : decode cX4_copyFrom 114 = .ok (.getfield 34, 3) := by decide +kernel
theorem dX4_copyFrom_117 : decode cX4_copyFrom 117 = .ok (.iconst 0, 1) := by decide +kernel
theorem dX4_copyFrom_118 : decode cX4_copyFrom 118 = .ok (.aload_n 0, 1) := by decide +kernel
theorem dX4_copyFrom_119 : decode cX4_copyFrom 119 = .ok (.getfield 34, 3) := by decide +kernel
theorem dX4_copyFrom_122 : decode cX4_copyFrom 122 = .ok (.arraylength, 1) := by decide +kernel
theorem dX4_copyFrom_123 : decode cX4_copyFrom 123 = .ok (.invokestatic 64, 3) := by decide +kernel
theorem dX4_copyFrom_126 : decode cX4_copyFrom 126 = .ok (.aload_n 1, 1) := by decide +kernel
theorem dX4_copyFrom_127 : decode cX4_copyFrom 127 = .ok (.getfield 37, 3) := by decide +kernel
theorem dX4_copyFrom_130 : decode cX4_copyFrom 130 = .ok (.iconst 0, 1) := by decide +kernel
theorem dX4_copyFrom_131 : decode cX4_copyFrom 131 = .ok (.aload_n 0, 1) := by decide +kernel
theorem dX4_copyFrom_132 : decode cX4_copyFrom 132 = .ok (.getfield 37, 3) := by decide +kernel
theorem dX4_copyFrom_135 : decode cX4_copyFrom 135 = .ok (.iconst 0, 1) := by decide +kernel
theorem dX4_copyFrom_136 : decode cX4_copyFrom 136 = .ok (.aload_n 0, 1) := by decide +kernel
theorem dX4_copyFrom_137 : decode cX4_copyFrom 137 = .ok (.getfield 37, 3) := by decide +kernel
theorem dX4_copyFrom_140 : decode cX4_copyFrom 140 = .ok (.arraylength, 1) := by decide +kernel
theorem dX4_copyFrom_141 : decode cX4_copyFrom 141 = .ok (.invokestatic 64, 3) := by decide +kernel
theorem dX4_copyFrom_144 : decode cX4_copyFrom 144 = .ok (.aload_n 1, 1) := by decide +kernel
theorem dX4_copyFrom_145 : decode cX4_copyFrom 145 = .ok (.getfield 40, 3) := by decide +kernel
theorem dX4_copyFrom_148 : decode cX4_copyFrom 148 = .ok (.iconst 0, 1) := by decide +kernel
theorem dX4_copyFrom_149 : decode cX4_copyFrom 149 = .ok (.aload_n 0, 1) := by decide +kernel
theorem dX4_copyFrom_150 : decode cX4_copyFrom 150 = .ok (.getfield 40, 3) := by decide +kernel
theorem dX4_copyFrom_153 : decode cX4_copyFrom 153 = .ok (.iconst 0, 1) := by decide +kernel
theorem dX4_copyFrom_154 : decode cX4_copyFrom 154 = .ok (.aload_n 0, 1) := by decide +kernel
theorem dX4_copyFrom_155 : decode cX4_copyFrom 155 = .ok (.getfield 40, 3) := by decide +kernel
theorem dX4_copyFrom_158 : decode cX4_copyFrom 158 = .ok (.arraylength, 1) := by decide +kernel
theorem dX4_copyFrom_159 : decode cX4_copyFrom 159 = .ok (.invokestatic 64, 3) := by decide +kernel
theorem dX4_copyFrom_162 : decode cX4_copyFrom 162 = .ok (.aload_n 1, 1) := by decide +kernel
theorem dX4_copyFrom_163 : decode cX4_copyFrom 163 = .ok (.getfield 43, 3) := by decide +kernel
theorem dX4_copyFrom_166 : decode cX4_copyFrom 166 = .ok (.iconst 0, 1) := by decide +kernel
theorem dX4_copyFrom_167 : decode cX4_copyFrom 167 = .ok (.aload_n 0, 1) := by decide +kernel
theorem dX4_copyFrom_168 : decode cX4_copyFrom 168 = .ok (.getfield 43, 3) := by decide +kernel
theorem dX4_copyFrom_171 : decode cX4_copyFrom 171 = .ok (.iconst 0, 1) := by decide +kernel
theorem dX4_copyFrom_172 : decode cX4_copyFrom 172 = .ok (.aload_n 0, 1) := by decide +kernel
theorem dX4_copyFrom_173 : decode cX4_copyFrom 173 = .ok (.getfield 43, 3) := by decide +kernel
theorem dX4_copyFrom_176 : decode cX4_copyFrom 176 = .ok (.arraylength, 1) := by decide +kernel
theorem dX4_copyFrom_177 : decode cX4_copyFrom 177 = .ok (.invokestatic 64, 3) := by decide +kernel
theorem dX4_copyFrom_180 : decode cX4_copyFrom 180 = .ok (.aload_n 1, 1) := by decide +kernel
theorem dX4_copyFrom_181 : decode cX4_copyFrom 181 = .ok (.getfield 46, 3) := by decide +kernel
theorem dX4_copyFrom_184 : decode cX4_copyFrom 184 = .ok (.iconst 0, 1) := by decide +kernel
theorem dX4_copyFrom_185 : decode cX4_copyFrom 185 = .ok (.aload_n 0, 1) := by decide +kernel
theorem dX4_copyFrom_186 : decode cX4_copyFrom 186 = .ok (.getfield 46, 3) := by decide +kernel
theorem dX4_copyFrom_189 : decode cX4_copyFrom 189 = .ok (.iconst 0, 1) := by decide +kernel
theorem dX4_copyFrom_190 : decode cX4_copyFrom 190 = .ok (.aload_n 0, 1) := by decide +kernel
theorem dX4_copyFrom_191 : decode cX4_copyFrom 191 = .ok (.getfield 46, 3) := by decide +kernel
theorem dX4_copyFrom_194 : decode cX4_copyFrom 194 = .ok (.arraylength, 1) := by decide +kernel
theorem dX4_copyFrom_195 : decode cX4_copyFrom 195 = .ok (.invokestatic 64, 3) := by decide +kernel
theorem dX4_copyFrom_198 : decode cX4_copyFrom 198 = .ok (.aload_n 0, 1) := by decide +kernel
theorem dX4_copyFrom_199 : decode cX4_copyFrom 199 = .ok (.aload_n 1, 1) := by decide +kernel
theorem dX4_copyFrom_200 : decode cX4_copyFrom 200 = .ok (.getfield 53, 3) := by decide +kernel
theorem dX4_copyFrom_203 : decode cX4_copyFrom 203 = .ok (.putfield 53, 3) := by decide +kernel
theorem dX4_copyFrom_206 : decode cX4_copyFrom 206 = .ok (.return_, 1) := by decide +kernel
theorem dX4_takeBlock_0 : decode cX4_takeBlock 0 = .ok (.iconst 1, 1) := by decide +kernel
theorem dX4_takeBlock_1 : decode cX4_takeBlock 1 = .ok (.istore_n 2, 1) := by decide +kernel
theorem dX4_takeBlock_2 : decode cX4_takeBlock 2 = .ok (.iload_n 2, 1) := by decide +kernel
theorem dX4_takeBlock_3 : decode cX4_takeBlock 3 = .ok (.aload_n 0, 1) := by decide +kernel
theorem dX4_takeBlock_4 : decode cX4_takeBlock 4 = .ok (.getfield 9, 3) := by decide +kernel
theorem dX4_takeBlock_7 : decode cX4_takeBlock 7 = .ok (.if_icmp .ge 69, 3) := by decide +kernel
theorem dX4_takeBlock_10 : decode cX4_takeBlock 10 = .ok (.aload_n 0, 1) := by decide +kernel
theorem dX4_takeBlock_11 : decode cX4_takeBlock 11 = .ok (.getfield 15, 3) := by decide +kernel
theorem dX4_takeBlock_14 : decode cX4_takeBlock 14 = .ok (.iload_n 2, 1) := by decide +kernel
theorem dX4_takeBlock_15 : decode cX4_takeBlock 15 = .ok (.iaload, 1) := by decide +kernel
theorem dX4_takeBlock_16 : decode cX4_takeBlock 16 = .ok (.ifCond .ne 54, 3) := by decide +kernel
theorem dX4_takeBlock_19 : decode cX4_takeBlock 19 = .ok (.aload_n 0, 1) := by decide +kernel
theorem dX4_takeBlock_20 : decode cX4_takeBlock 20 = .ok (.getfield 15, 3) := by decide +kernel
theorem dX4_takeBlock_23 : decode cX4_takeBlock 23 = .ok (.iload_n 2, 1) := by decide +kernel
theorem dX4_takeBlock_24 : decode cX4_takeBlock 24 = .ok (.iload_n 1, 1) := by decide +kernel
theorem dX4_takeBlock_25 : decode cX4_takeBlock 25 = .ok (.iastore, 1) := by decide +kernel
theorem dX4_takeBlock_26 : decode cX4_takeBlock 26 = .ok (.aload_n 0, 1) := by decide +kernel
theorem dX4_takeBlock_27 : decode cX4_takeBlock 27 = .ok (.getfield 19, 3) := by decide +kernel
theorem dX4_takeBlock_30 : decode cX4_takeBlock 30 = .ok (.iload_n 2, 1) := by decide +kernel
theorem dX4_takeBlock_31 : decode cX4_takeBlock 31 = .ok (.iconst 0, 1) := by decide +kernel
theorem dX4_takeBlock_32 : decode cX4_takeBlock 32 = .ok (.iastore, 1) := by decide +kernel
theorem dX4_takeBlock_33 : decode cX4_takeBlock 33 = .ok (.aload_n 0, 1) := by decide +kernel
theorem dX4_takeBlock_34 : decode cX4_takeBlock 34 = .ok (.getfield 22, 3) := by decide +kernel
theorem dX4_takeBlock_37 : decode cX4_takeBlock 37 = .ok (.iload_n 2, 1) := by decide +kernel
theorem dX4_takeBlock_38 : decode cX4_takeBlock 38 = .ok (.iconst 0, 1) := by decide +kernel
theorem dX4_takeBlock_39 : decode cX4_takeBlock 39 = .ok (.iastore, 1) := by decide +kernel
theorem dX4_takeBlock_40 : decode cX4_takeBlock 40 = .ok (.aload_n 0, 1) := by decide +kernel
theorem dX4_takeBlock_41 : decode cX4_takeBlock 41 = .ok (.getfield 25, 3) := by decide +kernel
theorem dX4_takeBlock_44 : decode cX4_takeBlock 44 = .ok (.iload_n 2, 1) := by decide +kernel
theorem dX4_takeBlock_45 : decode cX4_takeBlock 45 = .ok (.iconst 0, 1) := by decide +kernel
theorem dX4_takeBlock_46 : decode cX4_takeBlock 46 = .ok (.iastore, 1) := by decide +kernel
theorem dX4_takeBlock_47 : decode cX4_takeBlock 47 = .ok (.aload_n 0, 1) := by decide +kernel
theorem dX4_takeBlock_48 : decode cX4_takeBlock 48 = .ok (.getfield 28, 3) := by decide +kernel
theorem dX4_takeBlock_51 : decode cX4_takeBlock 51 = .ok (.iload_n 2, 1) := by decide +kernel
theorem dX4_takeBlock_52 : decode cX4_takeBlock 52 = .ok (.iconst (-1), 1) := by decide +kernel
theorem dX4_takeBlock_53 : decode cX4_takeBlock 53 = .ok (.iastore, 1) := by decide +kernel
theorem dX4_takeBlock_54 : decode cX4_takeBlock 54 = .ok (.aload_n 0, 1) := by decide +kernel
theorem dX4_takeBlock_55 : decode cX4_takeBlock 55 = .ok (.getfield 31, 3) := by decide +kernel
theorem dX4_takeBlock_58 : decode cX4_takeBlock 58 = .ok (.iload_n 2, 1) := by decide +kernel
theorem dX4_takeBlock_59 : decode cX4_takeBlock 59 = .ok (.iconst (-1), 1) := by decide +kernel
theorem dX4_takeBlock_60 : decode cX4_takeBlock 60 = .ok (.iastore, 1) := by decide +kernel
theorem dX4_takeBlock_61 : decode cX4_takeBlock 61 = .ok (.aload_n 0, 1) := by decide +kernel
theorem dX4_takeBlock_62 : decode cX4_takeBlock 62 = .ok (.getfield 34, 3) := by decide +kernel
theorem dX4_takeBlock_65 : decode cX4_takeBlock 65 = .ok (.iload_n 2, 1) := by decide +kernel
theorem dX4_takeBlock_66 : decode cX4_takeBlock 66 = .ok (.iconst (-1), 1) := by decide +kernel
theorem dX4_takeBlock_67 : decode cX4_takeBlock 67 = .ok (.iastore, 1) := by decide +kernel
theorem dX4_takeBlock_68 : decode cX4_takeBlock 68 = .ok (.iload_n 2, 1) := by decide +kernel
theorem dX4_takeBlock_69 : decode cX4_takeBlock 69 = .ok (.ireturn, 1) := by decide +kernel
theorem dX4_takeBlock_70 : decode cX4_takeBlock 70 = .ok (.iinc 2 1, 3) := by decide +kernel
theorem dX4_takeBlock_73 : decode cX4_takeBlock 73 = .ok (.goto (-71), 3) := by decide +kernel
theorem dX4_takeBlock_76 : decode cX4_takeBlock 76 = .ok (.iconst (-1), 1) := by decide +kernel
theorem dX4_takeBlock_77 : decode cX4_takeBlock 77 = .ok (.ireturn, 1) := by decide +kernel
theorem dX4_blocksInUse_0 : decode cX4_blocksInUse 0 = .ok (.iconst 0, 1) := by decide +kernel
theorem dX4_blocksInUse_1 : decode cX4_blocksInUse 1 = .ok (.istore_n 1, 1) := by decide +kernel
theorem dX4_blocksInUse_2 : decode cX4_blocksInUse 2 = .ok (.iconst 0, 1) := by decide +kernel
theorem dX4_blocksInUse_3 : decode cX4_blocksInUse 3 = .ok (.istore_n 2, 1) := by decide +kernel
theorem dX4_blocksInUse_4 : decode cX4_blocksInUse 4 = .ok (.iload_n 2, 1) := by decide +kernel
theorem dX4_blocksInUse_5 : decode cX4_blocksInUse 5 = .ok (.aload_n 0, 1) := by decide +kernel
theorem dX4_blocksInUse_6 : decode cX4_blocksInUse 6 = .ok (.getfield 9, 3) := by decide +kernel
theorem dX4_blocksInUse_9 : decode cX4_blocksInUse 9 = .ok (.if_icmp .ge 21, 3) := by decide +kernel
theorem dX4_blocksInUse_12 : decode cX4_blocksInUse 12 = .ok (.aload_n 0, 1) := by decide +kernel
theorem dX4_blocksInUse_13 : decode cX4_blocksInUse 13 = .ok (.getfield 15, 3) := by decide +kernel
theorem dX4_blocksInUse_16 : decode cX4_blocksInUse 16 = .ok (.iload_n 2, 1) := by decide +kernel
theorem dX4_blocksInUse_17 : decode cX4_blocksInUse 17 = .ok (.iaload, 1) := by decide +kernel
theorem dX4_blocksInUse_18 : decode cX4_blocksInUse 18 = .ok (.ifCond .eq 6, 3) := by decide +kernel
theorem dX4_blocksInUse_21 : decode cX4_blocksInUse 21 = .ok (.iinc 1 1, 3) := by decide +kernel
theorem dX4_blocksInUse_24 : decode cX4_blocksInUse 24 = .ok (.iinc 2 1, 3) := by decide +kernel
theorem dX4_blocksInUse_27 : decode cX4_blocksInUse 27 = .ok (.goto (-23), 3) := by decide +kernel
theorem dX4_blocksInUse_30 : decode cX4_blocksInUse 30 = .ok (.iload_n 1, 1) := by decide +kernel
theorem dX4_blocksInUse_31 : decode cX4_blocksInUse 31 = .ok (.ireturn, 1) := by decide +kernel
theorem dX4_leaves_0 : decode cX4_leaves 0 = .ok (.iconst 0, 1) := by decide +kernel
theorem dX4_leaves_1 : decode cX4_leaves 1 = .ok (.istore_n 1, 1) := by decide +kernel
theorem dX4_leaves_2 : decode cX4_leaves 2 = .ok (.iconst 0, 1) := by decide +kernel
theorem dX4_leaves_3 : decode cX4_leaves 3 = .ok (.istore_n 2, 1) := by decide +kernel
theorem dX4_leaves_4 : decode cX4_leaves 4 = .ok (.iload_n 2, 1) := by decide +kernel
theorem dX4_leaves_5 : decode cX4_leaves 5 = .ok (.aload_n 0, 1) := by decide +kernel
theorem dX4_leaves_6 : decode cX4_leaves 6 = .ok (.getfield 9, 3) := by decide +kernel
theorem dX4_leaves_9 : decode cX4_leaves 9 = .ok (.if_icmp .ge 22, 3) := by decide +kernel
theorem dX4_leaves_12 : decode cX4_leaves 12 = .ok (.aload_n 0, 1) := by decide +kernel
theorem dX4_leaves_13 : decode cX4_leaves 13 = .ok (.getfield 15, 3) := by decide +kernel
theorem dX4_leaves_16 : decode cX4_leaves 16 = .ok (.iload_n 2, 1) := by decide +kernel
theorem dX4_leaves_17 : decode cX4_leaves 17 = .ok (.iaload, 1) := by decide +kernel
theorem dX4_leaves_18 : decode cX4_leaves 18 = .ok (.iconst 2, 1) := by decide +kernel
theorem dX4_leaves_19 : decode cX4_leaves 19 = .ok (.if_icmp .ne 6, 3) := by decide +kernel
theorem dX4_leaves_22 : decode cX4_leaves 22 = .ok (.iinc 1 1, 3) := by decide +kernel
theorem dX4_leaves_25 : decode cX4_leaves 25 = .ok (.iinc 2 1, 3) := by decide +kernel
theorem dX4_leaves_28 : decode cX4_leaves 28 = .ok (.goto (-24), 3) := by decide +kernel
theorem dX4_leaves_31 : decode cX4_leaves 31 = .ok (.iload_n 1, 1) := by decide +kernel
theorem dX4_leaves_32 : decode cX4_leaves 32 = .ok (.ireturn, 1) := by decide +kernel
theorem dX4_items_0 : decode cX4_items 0 = .ok (.iconst 0, 1) := by decide +kernel
theorem dX4_items_1 : decode cX4_items 1 = .ok (.istore_n 1, 1) := by decide +kernel
theorem dX4_items_2 : decode cX4_items 2 = .ok (.iconst 0, 1) := by decide +kernel
theorem dX4_items_3 : decode cX4_items 3 = .ok (.istore_n 2, 1) := by decide +kernel
theorem dX4_items_4 : decode cX4_items 4 = .ok (.iload_n 2, 1) := by decide +kernel
theorem dX4_items_5 : decode cX4_items 5 = .ok (.aload_n 0, 1) := by decide +kernel
theorem dX4_items_6 : decode cX4_items 6 = .ok (.getfield 9, 3) := by decide +kernel
theorem dX4_items_9 : decode cX4_items 9 = .ok (.if_icmp .ge 28, 3) := by decide +kernel
theorem dX4_items_12 : decode cX4_items 12 = .ok (.aload_n 0, 1) := by decide +kernel
theorem dX4_items_13 : decode cX4_items 13 = .ok (.getfield 15, 3) := by decide +kernel
theorem dX4_items_16 : decode cX4_items 16 = .ok (.iload_n 2, 1) := by decide +kernel
theorem dX4_items_17 : decode cX4_items 17 = .ok (.iaload, 1) := by decide +kernel
theorem dX4_items_18 : decode cX4_items 18 = .ok (.iconst 2, 1) := by decide +kernel
theorem dX4_items_19 : decode cX4_items 19 = .ok (.if_icmp .ne 12, 3) := by decide +kernel
theorem dX4_items_22 : decode cX4_items 22 = .ok (.iload_n 1, 1) := by decide +kernel
theorem dX4_items_23 : decode cX4_items 23 = .ok (.aload_n 0, 1) := by decide +kernel
theorem dX4_items_24 : decode cX4_items 24 = .ok (.getfield 22, 3) := by decide +kernel
theorem dX4_items_27 : decode cX4_items 27 = .ok (.iload_n 2, 1) := by decide +kernel
theorem dX4_items_28 : decode cX4_items 28 = .ok (.iaload, 1) := by decide +kernel
theorem dX4_items_29 : decode cX4_items 29 = .ok (.iadd, 1) := by decide +kernel
theorem dX4_items_30 : decode cX4_items 30 = .ok (.istore_n 1, 1) := by decide +kernel
theorem dX4_items_31 : decode cX4_items 31 = .ok (.iinc 2 1, 3) := by decide +kernel
theorem dX4_items_34 : decode cX4_items 34 = .ok (.goto (-30), 3) := by decide +kernel
theorem dX4_items_37 : decode cX4_items 37 = .ok (.iload_n 1, 1) := by decide +kernel
theorem dX4_items_38 : decode cX4_items 38 = .ok (.ireturn, 1) := by decide +kernel
theorem dX4_usedOfAll_0 : decode cX4_usedOfAll 0 = .ok (.iconst 0, 1) := by decide +kernel
theorem dX4_usedOfAll_1 : decode cX4_usedOfAll 1 = .ok (.istore_n 1, 1) := by decide +kernel
theorem dX4_usedOfAll_2 : decode cX4_usedOfAll 2 = .ok (.iconst 0, 1) := by decide +kernel
theorem dX4_usedOfAll_3 : decode cX4_usedOfAll 3 = .ok (.istore_n 2, 1) := by decide +kernel
theorem dX4_usedOfAll_4 : decode cX4_usedOfAll 4 = .ok (.iload_n 2, 1) := by decide +kernel
theorem dX4_usedOfAll_5 : decode cX4_usedOfAll 5 = .ok (.aload_n 0, 1) := by decide +kernel
theorem dX4_usedOfAll_6 : decode cX4_usedOfAll 6 = .ok (.getfield 9, 3) := by decide +kernel
theorem dX4_usedOfAll_9 : decode cX4_usedOfAll 9 = .ok (.if_icmp .ge 28, 3) := by decide +kernel
theorem dX4_usedOfAll_12 : decode cX4_usedOfAll 12 = .ok (.aload_n 0, 1) := by decide +kernel
theorem dX4_usedOfAll_13 : decode cX4_usedOfAll 13 = .ok (.getfield 15, 3) := by decide +kernel
theorem dX4_usedOfAll_16 : decode cX4_usedOfAll 16 = .ok (.iload_n 2, 1) := by decide +kernel
theorem dX4_usedOfAll_17 : decode cX4_usedOfAll 17 = .ok (.iaload, 1) := by decide +kernel
theorem dX4_usedOfAll_18 : decode cX4_usedOfAll 18 = .ok (.iconst 2, 1) := by decide +kernel
theorem dX4_usedOfAll_19 : decode cX4_usedOfAll 19 = .ok (.if_icmp .ne 12, 3) := by decide +kernel
theorem dX4_usedOfAll_22 : decode cX4_usedOfAll 22 = .ok (.iload_n 1, 1) := by decide +kernel
theorem dX4_usedOfAll_23 : decode cX4_usedOfAll 23 = .ok (.aload_n 0, 1) := by decide +kernel
theorem dX4_usedOfAll_24 : decode cX4_usedOfAll 24 = .ok (.getfield 25, 3) := by decide +kernel
theorem dX4_usedOfAll_27 : decode cX4_usedOfAll 27 = .ok (.iload_n 2, 1) := by decide +kernel
theorem dX4_usedOfAll_28 : decode cX4_usedOfAll 28 = .ok (.iaload, 1) := by decide +kernel
theorem dX4_usedOfAll_29 : decode cX4_usedOfAll 29 = .ok (.iadd, 1) := by decide +kernel
theorem dX4_usedOfAll_30 : decode cX4_usedOfAll 30 = .ok (.istore_n 1, 1) := by decide +kernel
theorem dX4_usedOfAll_31 : decode cX4_usedOfAll 31 = .ok (.iinc 2 1, 3) := by decide +kernel
theorem dX4_usedOfAll_34 : decode cX4_usedOfAll 34 = .ok (.goto (-30), 3) := by decide +kernel
theorem dX4_usedOfAll_37 : decode cX4_usedOfAll 37 = .ok (.iload_n 1, 1) := by decide +kernel
theorem dX4_usedOfAll_38 : decode cX4_usedOfAll 38 = .ok (.ireturn, 1) := by decide +kernel
theorem dX4_leftmost_0 : decode cX4_leftmost 0 = .ok (.aload_n 0, 1) := by decide +kernel
theorem dX4_leftmost_1 : decode cX4_leftmost 1 = .ok (.getfield 53, 3) := by decide +kernel
theorem dX4_leftmost_4 : decode cX4_leftmost 4 = .ok (.istore_n 2, 1) := by decide +kernel
theorem dX4_leftmost_5 : decode cX4_leftmost 5 = .ok (.aload_n 0, 1) := by decide +kernel
theorem dX4_leftmost_6 : decode cX4_leftmost 6 = .ok (.getfield 19, 3) := by decide +kernel
theorem dX4_leftmost_9 : decode cX4_leftmost 9 = .ok (.aload_n 0, 1) := by decide +kernel
theorem dX4_leftmost_10 : decode cX4_leftmost 10 = .ok (.getfield 53, 3) := by decide +kernel
theorem dX4_leftmost_13 : decode cX4_leftmost 13 = .ok (.iaload, 1) := by decide +kernel
theorem dX4_leftmost_14 : decode cX4_leftmost 14 = .ok (.istore_n 3, 1) := by decide +kernel
theorem dX4_leftmost_15 : decode cX4_leftmost 15 = .ok (.iload_n 3, 1) := by decide +kernel
theorem dX4_leftmost_16 : decode cX4_leftmost 16 = .ok (.iload_n 1, 1) := by decide +kernel
theorem dX4_leftmost_17 : decode cX4_leftmost 17 = .ok (.if_icmp .le 19, 3) := by decide +kernel
theorem dX4_leftmost_20 : decode cX4_leftmost 20 = .ok (.aload_n 0, 1) := by decide +kernel
theorem dX4_leftmost_21 : decode cX4_leftmost 21 = .ok (.getfield 37, 3) := by decide +kernel
theorem dX4_leftmost_24 : decode cX4_leftmost 24 = .ok (.iload_n 2, 1) := by decide +kernel
theorem dX4_leftmost_25 : decode cX4_leftmost 25 = .ok (.bipush 6, 2) := by decide +kernel
theorem dX4_leftmost_27 : decode cX4_leftmost 27 = .ok (.imul, 1) := by decide +kernel
theorem dX4_leftmost_28 : decode cX4_leftmost 28 = .ok (.iaload, 1) := by decide +kernel
theorem dX4_leftmost_29 : decode cX4_leftmost 29 = .ok (.istore_n 2, 1) := by decide +kernel
theorem dX4_leftmost_30 : decode cX4_leftmost 30 = .ok (.iinc 3 (-1), 3) := by decide +kernel
theorem dX4_leftmost_33 : decode cX4_leftmost 33 = .ok (.goto (-18), 3) := by decide +kernel
theorem dX4_leftmost_36 : decode cX4_leftmost 36 = .ok (.iload_n 2, 1) := by decide +kernel
theorem dX4_leftmost_37 : decode cX4_leftmost 37 = .ok (.ireturn, 1) := by decide +kernel
theorem dX4_nodeAt_0 : decode cX4_nodeAt 0 = .ok (.iload_n 1, 1) := by decide +kernel
theorem dX4_nodeAt_1 : decode cX4_nodeAt 1 = .ok (.ifCond .lt 28, 3) := by decide +kernel
theorem dX4_nodeAt_4 : decode cX4_nodeAt 4 = .ok (.iload_n 1, 1) := by decide +kernel
theorem dX4_nodeAt_5 : decode cX4_nodeAt 5 = .ok (.aload_n 0, 1) := by decide +kernel
theorem dX4_nodeAt_6 : decode cX4_nodeAt 6 = .ok (.getfield 19, 3) := by decide +kernel
theorem dX4_nodeAt_9 : decode cX4_nodeAt 9 = .ok (.aload_n 0, 1) := by decide +kernel
theorem dX4_nodeAt_10 : decode cX4_nodeAt 10 = .ok (.getfield 53, 3) := by decide +kernel
theorem dX4_nodeAt_13 : decode cX4_nodeAt 13 = .ok (.iaload, 1) := by decide +kernel
theorem dX4_nodeAt_14 : decode cX4_nodeAt 14 = .ok (.if_icmp .gt 15, 3) := by decide +kernel
theorem dX4_nodeAt_17 : decode cX4_nodeAt 17 = .ok (.iload_n 2, 1) := by decide +kernel
theorem dX4_nodeAt_18 : decode cX4_nodeAt 18 = .ok (.ifCond .lt 11, 3) := by decide +kernel
theorem dX4_nodeAt_21 : decode cX4_nodeAt 21 = .ok (.iload_n 2, 1) := by decide +kernel
theorem dX4_nodeAt_22 : decode cX4_nodeAt 22 = .ok (.aload_n 0, 1) := by decide +kernel
theorem dX4_nodeAt_23 : decode cX4_nodeAt 23 = .ok (.getfield 9, 3) := by decide +kernel
theorem dX4_nodeAt_26 : decode cX4_nodeAt 26 = .ok (.if_icmp .lt 5, 3) := by decide +kernel
theorem dX4_nodeAt_29 : decode cX4_nodeAt 29 = .ok (.iconst (-1), 1) := by decide +kernel
theorem dX4_nodeAt_30 : decode cX4_nodeAt 30 = .ok (.ireturn, 1) := by decide +kernel
theorem dX4_nodeAt_31 : decode cX4_nodeAt 31 = .ok (.aload_n 0, 1) := by decide +kernel
theorem dX4_nodeAt_32 : decode cX4_nodeAt 32 = .ok (.iload_n 1, 1) := by decide +kernel
theorem dX4_nodeAt_33 : decode cX4_nodeAt 33 = .ok (.invokevirtual 70, 3) := by decide +kernel
theorem dX4_nodeAt_36 : decode cX4_nodeAt 36 = .ok (.istore_n 3, 1) := by decide +kernel
theorem dX4_nodeAt_37 : decode cX4_nodeAt 37 = .ok (.iconst 0, 1) := by decide +kernel
theorem dX4_nodeAt_38 : decode cX4_nodeAt 38 = .ok (.istore 4, 2) := by decide +kernel
theorem dX4_nodeAt_40 : decode cX4_nodeAt 40 = .ok (.iload 4, 2) := by decide +kernel
theorem dX4_nodeAt_42 : decode cX4_nodeAt 42 = .ok (.iload_n 2, 1) := by decide +kernel
theorem dX4_nodeAt_43 : decode cX4_nodeAt 43 = .ok (.if_icmp .ge 21, 3) := by decide +kernel
theorem dX4_nodeAt_46 : decode cX4_nodeAt 46 = .ok (.iload_n 3, 1) := by decide +kernel
theorem dX4_nodeAt_47 : decode cX4_nodeAt 47 = .ok (.iconst (-1), 1) := by decide +kernel
theorem dX4_nodeAt_48 : decode cX4_nodeAt 48 = .ok (.if_icmp .eq 16, 3) := by decide +kernel
theorem dX4_nodeAt_51 : decode cX4_nodeAt 51 = .ok (.aload_n 0, 1) := by decide +kernel
theorem dX4_nodeAt_52 : decode cX4_nodeAt 52 = .ok (.getfield 34, 3) := by decide +kernel
theorem dX4_nodeAt_55 : decode cX4_nodeAt 55 = .ok (.iload_n 3, 1) := by decide +kernel
theorem dX4_nodeAt_56 : decode cX4_nodeAt 56 = .ok (.iaload, 1) := by decide +kernel
theorem dX4_nodeAt_57 : decode cX4_nodeAt 57 = .ok (.istore_n 3, 1) := by decide +kernel
theorem dX4_nodeAt_58 : decode cX4_nodeAt 58 = .ok (.iinc 4 1, 3) := by decide +kernel
theorem dX4_nodeAt_61 : decode cX4_nodeAt 61 = .ok (.goto (-21), 3) := by decide +kernel
theorem dX4_nodeAt_64 : decode cX4_nodeAt 64 = .ok (.iload_n 3, 1) := by decide +kernel
theorem dX4_nodeAt_65 : decode cX4_nodeAt 65 = .ok (.ireturn, 1) := by decide +kernel
theorem dX4_slotFrom_0 : decode cX4_slotFrom 0 = .ok (.iload_n 2, 1) := by decide +kernel
theorem dX4_slotFrom_1 : decode cX4_slotFrom 1 = .ok (.ifCond .ge 5, 3) := by decide +kernel
theorem dX4_slotFrom_4 : decode cX4_slotFrom 4 = .ok (.iconst (-1), 1) := by decide +kernel
theorem dX4_slotFrom_5 : decode cX4_slotFrom 5 = .ok (.ireturn, 1) := by decide +kernel
theorem dX4_slotFrom_6 : decode cX4_slotFrom 6 = .ok (.iload_n 2, 1) := by decide +kernel
theorem dX4_slotFrom_7 : decode cX4_slotFrom 7 = .ok (.istore_n 3, 1) := by decide +kernel
theorem dX4_slotFrom_8 : decode cX4_slotFrom 8 = .ok (.iload_n 1, 1) := by decide +kernel
theorem dX4_slotFrom_9 : decode cX4_slotFrom 9 = .ok (.istore 4, 2) := by decide +kernel
theorem dX4_slotFrom_11 : decode cX4_slotFrom 11 = .ok (.iconst 0, 1) := by decide +kernel
theorem dX4_slotFrom_12 : decode cX4_slotFrom 12 = .ok (.istore 5, 2) := by decide +kernel
theorem dX4_slotFrom_14 : decode cX4_slotFrom 14 = .ok (.iload 5, 2) := by decide +kernel
theorem dX4_slotFrom_16 : decode cX4_slotFrom 16 = .ok (.aload_n 0, 1) := by decide +kernel
theorem dX4_slotFrom_17 : decode cX4_slotFrom 17 = .ok (.getfield 9, 3) := by decide +kernel
theorem dX4_slotFrom_20 : decode cX4_slotFrom 20 = .ok (.if_icmp .ge 53, 3) := by decide +kernel
theorem dX4_slotFrom_23 : decode cX4_slotFrom 23 = .ok (.iload 4, 2) := by decide +kernel
theorem dX4_slotFrom_25 : decode cX4_slotFrom 25 = .ok (.iconst (-1), 1) := by decide +kernel
theorem dX4_slotFrom_26 : decode cX4_slotFrom 26 = .ok (.if_icmp .eq 47, 3) := by decide +kernel
theorem dX4_slotFrom_29 : decode cX4_slotFrom 29 = .ok (.iload_n 3, 1) := by decide +kernel
theorem dX4_slotFrom_30 : decode cX4_slotFrom 30 = .ok (.aload_n 0, 1) := by decide +kernel
theorem dX4_slotFrom_31 : decode cX4_slotFrom 31 = .ok (.getfield 22, 3) := by decide +kernel
theorem dX4_slotFrom_34 : decode cX4_slotFrom 34 = .ok (.iload 4, 2) := by decide +kernel
theorem dX4_slotFrom_36 : decode cX4_slotFrom 36 = .ok (.iaload, 1) := by decide +kernel
theorem dX4_slotFrom_37 : decode cX4_slotFrom 37 = .ok (.if_icmp .ge 11, 3) := by decide +kernel
theorem dX4_slotFrom_40 : decode cX4_slotFrom 40 = .ok (.iload 4, 2) := by decide +kernel
theorem dX4_slotFrom_42 : decode cX4_slotFrom 42 = .ok (.bipush 14, 2) := by decide +kernel
theorem dX4_slotFrom_44 : decode cX4_slotFrom 44 = .ok (.imul, 1) := by decide +kernel
theorem dX4_slotFrom_45 : decode cX4_slotFrom 45 = .ok (.iload_n 3, 1) := by decide +kernel
theorem dX4_slotFrom_46 : decode cX4_slotFrom 46 = .ok (.iadd, 1) := by decide +kernel
theorem dX4_slotFrom_47 : decode cX4_slotFrom 47 = .ok (.ireturn, 1) := by decide +kernel
theorem dX4_slotFrom_48 : decode cX4_slotFrom 48 = .ok (.iload_n 3, 1) := by decide +kernel
theorem dX4_slotFrom_49 : decode cX4_slotFrom 49 = .ok (.aload_n 0, 1) := by decide +kernel
theorem dX4_slotFrom_50 : decode cX4_slotFrom 50 = .ok (.getfield 22, 3) := by decide +kernel
theorem dX4_slotFrom_53 : decode cX4_slotFrom 53 = .ok (.iload 4, 2) := by decide +kernel
theorem dX4_slotFrom_55 : decode cX4_slotFrom 55 = .ok (.iaload, 1) := by decide +kernel
theorem dX4_slotFrom_56 : decode cX4_slotFrom 56 = .ok (.isub, 1) := by decide +kernel
theorem dX4_slotFrom_57 : decode cX4_slotFrom 57 = .ok (.istore_n 3, 1) := by decide +kernel
theorem dX4_slotFrom_58 : decode cX4_slotFrom 58 = .ok (.aload_n 0, 1) := by decide +kernel
theorem dX4_slotFrom_59 : decode cX4_slotFrom 59 = .ok (.getfield 34, 3) := by decide +kernel
theorem dX4_slotFrom_62 : decode cX4_slotFrom 62 = .ok (.iload 4, 2) := by decide +kernel
theorem dX4_slotFrom_64 : decode cX4_slotFrom 64 = .ok (.iaload, 1) := by decide +kernel
theorem dX4_slotFrom_65 : decode cX4_slotFrom 65 = .ok (.istore 4, 2) := by decide +kernel
theorem dX4_slotFrom_67 : decode cX4_slotFrom 67 = .ok (.iinc 5 1, 3) := by decide +kernel
theorem dX4_slotFrom_70 : decode cX4_slotFrom 70 = .ok (.goto (-56), 3) := by decide +kernel
theorem dX4_slotFrom_73 : decode cX4_slotFrom 73 = .ok (.iconst (-1), 1) := by decide +kernel
theorem dX4_slotFrom_74 : decode cX4_slotFrom 74 = .ok (.ireturn, 1) := by decide +kernel
theorem dX4_slotBehind_0 : decode cX4_slotBehind 0 = .ok (.aload_n 0, 1) := by decide +kernel
theorem dX4_slotBehind_1 : decode cX4_slotBehind 1 = .ok (.iload_n 1, 1) := by decide +kernel
theorem dX4_slotBehind_2 : decode cX4_slotBehind 2 = .ok (.invokevirtual 73, 3) := by decide +kernel
theorem dX4_slotBehind_5 : decode cX4_slotBehind 5 = .ok (.istore_n 3, 1) := by decide +kernel
theorem dX4_slotBehind_6 : decode cX4_slotBehind 6 = .ok (.iload_n 3, 1) := by decide +kernel
theorem dX4_slotBehind_7 : decode cX4_slotBehind 7 = .ok (.iconst (-1), 1) := by decide +kernel
theorem dX4_slotBehind_8 : decode cX4_slotBehind 8 = .ok (.if_icmp .ne 7, 3) := by decide +kernel
theorem dX4_slotBehind_11 : decode cX4_slotBehind 11 = .ok (.iconst (-1), 1) := by decide +kernel
theorem dX4_slotBehind_12 : decode cX4_slotBehind 12 = .ok (.goto 17, 3) := by decide +kernel
theorem dX4_slotBehind_15 : decode cX4_slotBehind 15 = .ok (.aload_n 0, 1) := by decide +kernel
theorem dX4_slotBehind_16 : decode cX4_slotBehind 16 = .ok (.iload_n 3, 1) := by decide +kernel
theorem dX4_slotBehind_17 : decode cX4_slotBehind 17 = .ok (.bipush 14, 2) := by decide +kernel
theorem dX4_slotBehind_19 : decode cX4_slotBehind 19 = .ok (.idiv, 1) := by decide +kernel
theorem dX4_slotBehind_20 : decode cX4_slotBehind 20 = .ok (.iload_n 3, 1) := by decide +kernel
theorem dX4_slotBehind_21 : decode cX4_slotBehind 21 = .ok (.bipush 14, 2) := by decide +kernel
theorem dX4_slotBehind_23 : decode cX4_slotBehind 23 = .ok (.irem, 1) := by decide +kernel
theorem dX4_slotBehind_24 : decode cX4_slotBehind 24 = .ok (.iload_n 2, 1) := by decide +kernel
theorem dX4_slotBehind_25 : decode cX4_slotBehind 25 = .ok (.iadd, 1) := by decide +kernel
theorem dX4_slotBehind_26 : decode cX4_slotBehind 26 = .ok (.invokevirtual 76, 3) := by decide +kernel
theorem dX4_slotBehind_29 : decode cX4_slotBehind 29 = .ok (.ireturn, 1) := by decide +kernel
theorem dX4_slotOf_0 : decode cX4_slotOf 0 = .ok (.aload_n 0, 1) := by decide +kernel
theorem dX4_slotOf_1 : decode cX4_slotOf 1 = .ok (.iload_n 1, 1) := by decide +kernel
theorem dX4_slotOf_2 : decode cX4_slotOf 2 = .ok (.invokevirtual 80, 3) := by decide +kernel
theorem dX4_slotOf_5 : decode cX4_slotOf 5 = .ok (.istore_n 2, 1) := by decide +kernel
theorem dX4_slotOf_6 : decode cX4_slotOf 6 = .ok (.aload_n 0, 1) := by decide +kernel
theorem dX4_slotOf_7 : decode cX4_slotOf 7 = .ok (.iload_n 2, 1) := by decide +kernel
theorem dX4_slotOf_8 : decode cX4_slotOf 8 = .ok (.iload_n 1, 1) := by decide +kernel
theorem dX4_slotOf_9 : decode cX4_slotOf 9 = .ok (.invokevirtual 83, 3) := by decide +kernel
theorem dX4_slotOf_12 : decode cX4_slotOf 12 = .ok (.istore_n 3, 1) := by decide +kernel
theorem dX4_slotOf_13 : decode cX4_slotOf 13 = .ok (.iload_n 3, 1) := by decide +kernel
theorem dX4_slotOf_14 : decode cX4_slotOf 14 = .ok (.aload_n 0, 1) := by decide +kernel
theorem dX4_slotOf_15 : decode cX4_slotOf 15 = .ok (.getfield 22, 3) := by decide +kernel
theorem dX4_slotOf_18 : decode cX4_slotOf 18 = .ok (.iload_n 2, 1) := by decide +kernel
theorem dX4_slotOf_19 : decode cX4_slotOf 19 = .ok (.iaload, 1) := by decide +kernel
theorem dX4_slotOf_20 : decode cX4_slotOf 20 = .ok (.if_icmp .ge 22, 3) := by decide +kernel
theorem dX4_slotOf_23 : decode cX4_slotOf 23 = .ok (.aload_n 0, 1) := by decide +kernel
theorem dX4_slotOf_24 : decode cX4_slotOf 24 = .ok (.getfield 40, 3) := by decide +kernel
theorem dX4_slotOf_27 : decode cX4_slotOf 27 = .ok (.iload_n 2, 1) := by decide +kernel
theorem dX4_slotOf_28 : decode cX4_slotOf 28 = .ok (.bipush 14, 2) := by decide +kernel
theorem dX4_slotOf_30 : decode cX4_slotOf 30 = .ok (.imul, 1) := by decide +kernel
theorem dX4_slotOf_31 : decode cX4_slotOf 31 = .ok (.iload_n 3, 1) := by decide +kernel
theorem dX4_slotOf_32 : decode cX4_slotOf 32 = .ok (.iadd, 1) := by decide +kernel
theorem dX4_slotOf_33 : decode cX4_slotOf 33 = .ok (.iaload, 1) := by decide +kernel
theorem dX4_slotOf_34 : decode cX4_slotOf 34 = .ok (.iload_n 1, 1) := by decide +kernel
theorem dX4_slotOf_35 : decode cX4_slotOf 35 = .ok (.if_icmp .ne 7, 3) := by decide +kernel
theorem dX4_slotOf_38 : decode cX4_slotOf 38 = .ok (.iconst 1, 1) := by decide +kernel
theorem dX4_slotOf_39 : decode cX4_slotOf 39 = .ok (.goto 4, 3) := by decide +kernel
theorem dX4_slotOf_42 : decode cX4_slotOf 42 = .ok (.iconst 0, 1) := by decide +kernel
theorem dX4_slotOf_43 : decode cX4_slotOf 43 = .ok (.istore 4, 2) := by decide +kernel
theorem dX4_slotOf_45 : decode cX4_slotOf 45 = .ok (.iload 4, 2) := by decide +kernel
theorem dX4_slotOf_47 : decode cX4_slotOf 47 = .ok (.ifCond .eq 12, 3) := by decide +kernel
theorem dX4_slotOf_50 : decode cX4_slotOf 50 = .ok (.iload_n 2, 1) := by decide +kernel
theorem dX4_slotOf_51 : decode cX4_slotOf 51 = .ok (.bipush 14, 2) := by decide +kernel
theorem dX4_slotOf_53 : decode cX4_slotOf 53 = .ok (.imul, 1) := by decide +kernel
theorem dX4_slotOf_54 : decode cX4_slotOf 54 = .ok (.iload_n 3, 1) := by decide +kernel
theorem dX4_slotOf_55 : decode cX4_slotOf 55 = .ok (.iadd, 1) := by decide +kernel
theorem dX4_slotOf_56 : decode cX4_slotOf 56 = .ok (.goto 4, 3) := by decide +kernel
theorem dX4_slotOf_59 : decode cX4_slotOf 59 = .ok (.iconst (-1), 1) := by decide +kernel
theorem dX4_slotOf_60 : decode cX4_slotOf 60 = .ok (.ireturn, 1) := by decide +kernel
theorem dX4_leafOf_0 : decode cX4_leafOf 0 = .ok (.aload_n 0, 1) := by decide +kernel
theorem dX4_leafOf_1 : decode cX4_leafOf 1 = .ok (.iconst 0, 1) := by decide +kernel
theorem dX4_leafOf_2 : decode cX4_leafOf 2 = .ok (.invokevirtual 70, 3) := by decide +kernel
theorem dX4_leafOf_5 : decode cX4_leafOf 5 = .ok (.istore_n 2, 1) := by decide +kernel
theorem dX4_leafOf_6 : decode cX4_leafOf 6 = .ok (.iconst 0, 1) := by decide +kernel
theorem dX4_leafOf_7 : decode cX4_leafOf 7 = .ok (.istore_n 3, 1) := by decide +kernel
theorem dX4_leafOf_8 : decode cX4_leafOf 8 = .ok (.iload_n 3, 1) := by decide +kernel
theorem dX4_leafOf_9 : decode cX4_leafOf 9 = .ok (.aload_n 0, 1) := by decide +kernel
theorem dX4_leafOf_10 : decode cX4_leafOf 10 = .ok (.getfield 9, 3) := by decide +kernel
theorem dX4_leafOf_13 : decode cX4_leafOf 13 = .ok (.if_icmp .ge 42, 3) := by decide +kernel
theorem dX4_leafOf_16 : decode cX4_leafOf 16 = .ok (.aload_n 0, 1) := by decide +kernel
theorem dX4_leafOf_17 : decode cX4_leafOf 17 = .ok (.getfield 34, 3) := by decide +kernel
theorem dX4_leafOf_20 : decode cX4_leafOf 20 = .ok (.iload_n 2, 1) := by decide +kernel
theorem dX4_leafOf_21 : decode cX4_leafOf 21 = .ok (.iaload, 1) := by decide +kernel
theorem dX4_leafOf_22 : decode cX4_leafOf 22 = .ok (.istore 4, 2) := by decide +kernel
theorem dX4_leafOf_24 : decode cX4_leafOf 24 = .ok (.iload 4, 2) := by decide +kernel
theorem dX4_leafOf_26 : decode cX4_leafOf 26 = .ok (.iconst (-1), 1) := by decide +kernel
theorem dX4_leafOf_27 : decode cX4_leafOf 27 = .ok (.if_icmp .eq 17, 3) := by decide +kernel
theorem dX4_leafOf_30 : decode cX4_leafOf 30 = .ok (.aload_n 0, 1) := by decide +kernel
theorem dX4_leafOf_31 : decode cX4_leafOf 31 = .ok (.getfield 40, 3) := by decide +kernel
theorem dX4_leafOf_34 : decode cX4_leafOf 34 = .ok (.iload 4, 2) := by decide +kernel
theorem dX4_leafOf_36 : decode cX4_leafOf 36 = .ok (.bipush 14, 2) := by decide +kernel
theorem dX4_leafOf_38 : decode cX4_leafOf 38 = .ok (.imul, 1) := by decide +kernel
theorem dX4_leafOf_39 : decode cX4_leafOf 39 = .ok (.iaload, 1) := by decide +kernel
theorem dX4_leafOf_40 : decode cX4_leafOf 40 = .ok (.iload_n 1, 1) := by decide +kernel
theorem dX4_leafOf_41 : decode cX4_leafOf 41 = .ok (.if_icmp .le 5, 3) := by decide +kernel
theorem dX4_leafOf_44 : decode cX4_leafOf 44 = .ok (.iload_n 2, 1) := by decide +kernel
theorem dX4_leafOf_45 : decode cX4_leafOf 45 = .ok (.ireturn, 1) := by decide +kernel
theorem dX4_leafOf_46 : decode cX4_leafOf 46 = .ok (.iload 4, 2) := by decide +kernel
theorem dX4_leafOf_48 : decode cX4_leafOf 48 = .ok (.istore_n 2, 1) := by decide +kernel
theorem dX4_leafOf_49 : decode cX4_leafOf 49 = .ok (.iinc 3 1, 3) := by decide +kernel
theorem dX4_leafOf_52 : decode cX4_leafOf 52 = .ok (.goto (-44), 3) := by decide +kernel
theorem dX4_leafOf_55 : decode cX4_leafOf 55 = .ok (.iload_n 2, 1) := by decide +kernel
theorem dX4_leafOf_56 : decode cX4_leafOf 56 = .ok (.ireturn, 1) := by decide +kernel
theorem dX4_placeIn_0 : decode cX4_placeIn 0 = .ok (.iconst 0, 1) := by decide +kernel
theorem dX4_placeIn_1 : decode cX4_placeIn 1 = .ok (.istore_n 3, 1) := by decide +kernel
theorem dX4_placeIn_2 : decode cX4_placeIn 2 = .ok (.iload_n 3, 1) := by decide +kernel
theorem dX4_placeIn_3 : decode cX4_placeIn 3 = .ok (.aload_n 0, 1) := by decide +kernel
theorem dX4_placeIn_4 : decode cX4_placeIn 4 = .ok (.getfield 22, 3) := by decide +kernel
theorem dX4_placeIn_7 : decode cX4_placeIn 7 = .ok (.iload_n 1, 1) := by decide +kernel
theorem dX4_placeIn_8 : decode cX4_placeIn 8 = .ok (.iaload, 1) := by decide +kernel
theorem dX4_placeIn_9 : decode cX4_placeIn 9 = .ok (.if_icmp .ge 24, 3) := by decide +kernel
theorem dX4_placeIn_12 : decode cX4_placeIn 12 = .ok (.aload_n 0, 1) := by decide +kernel
theorem dX4_placeIn_13 : decode cX4_placeIn 13 = .ok (.getfield 40, 3) := by decide +kernel
theorem dX4_placeIn_16 : decode cX4_placeIn 16 = .ok (.iload_n 1, 1) := by decide +kernel
theorem dX4_placeIn_17 : decode cX4_placeIn 17 = .ok (.bipush 14, 2) := by decide +kernel
theorem dX4_placeIn_19 : decode cX4_placeIn 19 = .ok (.imul, 1) := by decide +kernel
theorem dX4_placeIn_20 : decode cX4_placeIn 20 = .ok (.iload_n 3, 1) := by decide +kernel
theorem dX4_placeIn_21 : decode cX4_placeIn 21 = .ok (.iadd, 1) := by decide +kernel
theorem dX4_placeIn_22 : decode cX4_placeIn 22 = .ok (.iaload, 1) := by decide +kernel
theorem dX4_placeIn_23 : decode cX4_placeIn 23 = .ok (.iload_n 2, 1) := by decide +kernel
theorem dX4_placeIn_24 : decode cX4_placeIn 24 = .ok (.if_icmp .ge 9, 3) := by decide +kernel
theorem dX4_placeIn_27 : decode cX4_placeIn 27 = .ok (.iinc 3 1, 3) := by decide +kernel
theorem dX4_placeIn_30 : decode cX4_placeIn 30 = .ok (.goto (-28), 3) := by decide +kernel
theorem dX4_placeIn_33 : decode cX4_placeIn 33 = .ok (.iload_n 3, 1) := by decide +kernel
theorem dX4_placeIn_34 : decode cX4_placeIn 34 = .ok (.ireturn, 1) := by decide +kernel
theorem dX4_putIn_0 : decode cX4_putIn 0 = .ok (.aload_n 0, 1) := by decide +kernel
theorem dX4_putIn_1 : decode cX4_putIn 1 = .ok (.iload_n 1, 1) := by decide +kernel
theorem dX4_putIn_2 : decode cX4_putIn 2 = .ok (.invokevirtual 80, 3) := by decide +kernel
theorem dX4_putIn_5 : decode cX4_putIn 5 = .ok (.istore 4, 2) := by decide +kernel
theorem dX4_putIn_7 : decode cX4_putIn 7 = .ok (.aload_n 0, 1) := by decide +kernel
theorem dX4_putIn_8 : decode cX4_putIn 8 = .ok (.iload 4, 2) := by decide +kernel
theorem dX4_putIn_10 : decode cX4_putIn 10 = .ok (.aload_n 0, 1) := by decide +kernel
theorem dX4_putIn_11 : decode cX4_putIn 11 = .ok (.iload 4, 2) := by decide +kernel
theorem dX4_putIn_13 : decode cX4_putIn 13 = .ok (.iload_n 1, 1) := by decide +kernel
theorem dX4_putIn_14 : decode cX4_putIn 14 = .ok (.invokevirtual 83, 3) := by decide +kernel
theorem dX4_putIn_17 : decode cX4_putIn 17 = .ok (.iload_n 1, 1) := by decide +kernel
theorem dX4_putIn_18 : decode cX4_putIn 18 = .ok (.iload_n 2, 1) := by decide +kernel
theorem dX4_putIn_19 : decode cX4_putIn 19 = .ok (.iload_n 3, 1) := by decide +kernel
theorem dX4_putIn_20 : decode cX4_putIn 20 = .ok (.invokevirtual 60, 3) := by decide +kernel
theorem dX4_putIn_23 : decode cX4_putIn 23 = .ok (.aload_n 0, 1) := by decide +kernel
theorem dX4_putIn_24 : decode cX4_putIn 24 = .ok (.iload 4, 2) := by decide +kernel
theorem dX4_putIn_26 : decode cX4_putIn 26 = .ok (.invokevirtual 86, 3) := by decide +kernel
theorem dX4_putIn_29 : decode cX4_putIn 29 = .ok (.ireturn, 1) := by decide +kernel
theorem dX4_takeOut_0 : decode cX4_takeOut 0 = .ok (.aload_n 0, 1) := by decide +kernel
theorem dX4_takeOut_1 : decode cX4_takeOut 1 = .ok (.iload_n 1, 1) := by decide +kernel
theorem dX4_takeOut_2 : decode cX4_takeOut 2 = .ok (.invokevirtual 73, 3) := by decide +kernel
theorem dX4_takeOut_5 : decode cX4_takeOut 5 = .ok (.istore_n 2, 1) := by decide +kernel
theorem dX4_takeOut_6 : decode cX4_takeOut 6 = .ok (.iload_n 2, 1) := by decide +kernel
theorem dX4_takeOut_7 : decode cX4_takeOut 7 = .ok (.iconst (-1), 1) := by decide +kernel
theorem dX4_takeOut_8 : decode cX4_takeOut 8 = .ok (.if_icmp .eq 23, 3) := by decide +kernel
theorem dX4_takeOut_11 : decode cX4_takeOut 11 = .ok (.aload_n 0, 1) := by decide +kernel
theorem dX4_takeOut_12 : decode cX4_takeOut 12 = .ok (.iload_n 2, 1) := by decide +kernel
theorem dX4_takeOut_13 : decode cX4_takeOut 13 = .ok (.bipush 14, 2) := by decide +kernel
theorem dX4_takeOut_15 : decode cX4_takeOut 15 = .ok (.idiv, 1) := by decide +kernel
theorem dX4_takeOut_16 : decode cX4_takeOut 16 = .ok (.iload_n 2, 1) := by decide +kernel
theorem dX4_takeOut_17 : decode cX4_takeOut 17 = .ok (.bipush 14, 2) := by decide +kernel
theorem dX4_takeOut_19 : decode cX4_takeOut 19 = .ok (.irem, 1) := by decide +kernel
theorem dX4_takeOut_20 : decode cX4_takeOut 20 = .ok (.invokevirtual 90, 3) := by decide +kernel
theorem dX4_takeOut_23 : decode cX4_takeOut 23 = .ok (.aload_n 0, 1) := by decide +kernel
theorem dX4_takeOut_24 : decode cX4_takeOut 24 = .ok (.iload_n 2, 1) := by decide +kernel
theorem dX4_takeOut_25 : decode cX4_takeOut 25 = .ok (.bipush 14, 2) := by decide +kernel
theorem dX4_takeOut_27 : decode cX4_takeOut 27 = .ok (.idiv, 1) := by decide +kernel
theorem dX4_takeOut_28 : decode cX4_takeOut 28 = .ok (.invokevirtual 94, 3) := by decide +kernel
theorem dX4_takeOut_31 : decode cX4_takeOut 31 = .ok (.return_, 1) := by decide +kernel
theorem dX4_reshape_0 : decode cX4_reshape 0 = .ok (.iload_n 2, 1) := by decide +kernel
theorem dX4_reshape_1 : decode cX4_reshape 1 = .ok (.iload_n 3, 1) := by decide +kernel
theorem dX4_reshape_2 : decode cX4_reshape 2 = .ok (.if_icmp .ne 5, 3) := by decide +kernel
theorem dX4_reshape_5 : decode cX4_reshape 5 = .ok (.iconst 1, 1) := by decide +kernel
theorem dX4_reshape_6 : decode cX4_reshape 6 = .ok (.ireturn, 1) := by decide +kernel
theorem dX4_reshape_7 : decode cX4_reshape 7 = .ok (.aload_n 0, 1) := by decide +kernel
theorem dX4_reshape_8 : decode cX4_reshape 8 = .ok (.iload_n 1, 1) := by decide +kernel
theorem dX4_reshape_9 : decode cX4_reshape 9 = .ok (.invokevirtual 80, 3) := by decide +kernel
theorem dX4_reshape_12 : decode cX4_reshape 12 = .ok (.istore 4, 2) := by decide +kernel
theorem dX4_reshape_14 : decode cX4_reshape 14 = .ok (.aload_n 0, 1) := by decide +kernel
theorem dX4_reshape_15 : decode cX4_reshape 15 = .ok (.iload 4, 2) := by decide +kernel
theorem dX4_reshape_17 : decode cX4_reshape 17 = .ok (.iload_n 1, 1) := by decide +kernel
theorem dX4_reshape_18 : decode cX4_reshape 18 = .ok (.invokevirtual 83, 3) := by decide +kernel
theorem dX4_reshape_21 : decode cX4_reshape 21 = .ok (.istore 5, 2) := by decide +kernel
theorem dX4_reshape_23 : decode cX4_reshape 23 = .ok (.iload_n 2, 1) := by decide +kernel
theorem dX4_reshape_24 : decode cX4_reshape 24 = .ok (.ifCond .ne 17, 3) := by decide +kernel
theorem dX4_reshape_27 : decode cX4_reshape 27 = .ok (.aload_n 0, 1) := by decide +kernel
theorem dX4_reshape_28 : decode cX4_reshape 28 = .ok (.iload 4, 2) := by decide +kernel
theorem dX4_reshape_30 : decode cX4_reshape 30 = .ok (.iload 5, 2) := by decide +kernel
theorem dX4_reshape_32 : decode cX4_reshape 32 = .ok (.iload_n 1, 1) := by decide +kernel
theorem dX4_reshape_33 : decode cX4_reshape 33 = .ok (.iload_n 3, 1) := by decide +kernel
theorem dX4_reshape_34 : decode cX4_reshape 34 = .ok (.iconst (-1), 1) := by decide +kernel
theorem dX4_reshape_35 : decode cX4_reshape 35 = .ok (.invokevirtual 60, 3) := by decide +kernel
theorem dX4_reshape_38 : decode cX4_reshape 38 = .ok (.goto 45, 3) := by decide +kernel
theorem dX4_reshape_41 : decode cX4_reshape 41 = .ok (.iload_n 3, 1) := by decide +kernel
theorem dX4_reshape_42 : decode cX4_reshape 42 = .ok (.ifCond .ne 14, 3) := by decide +kernel
theorem dX4_reshape_45 : decode cX4_reshape 45 = .ok (.aload_n 0, 1) := by decide +kernel
theorem dX4_reshape_46 : decode cX4_reshape 46 = .ok (.iload 4, 2) := by decide +kernel
theorem dX4_reshape_48 : decode cX4_reshape 48 = .ok (.iload 5, 2) := by decide +kernel
theorem dX4_reshape_50 : decode cX4_reshape 50 = .ok (.invokevirtual 90, 3) := by decide +kernel
theorem dX4_reshape_53 : decode cX4_reshape 53 = .ok (.goto 30, 3) := by decide +kernel
theorem dX4_reshape_56 : decode cX4_reshape 56 = .ok (.aload_n 0, 1) := by decide +kernel
theorem dX4_reshape_57 : decode cX4_reshape 57 = .ok (.getfield 43, 3) := by decide +kernel
theorem dX4_reshape_60 : decode cX4_reshape 60 = .ok (.iload 4, 2) := by decide +kernel
theorem dX4_reshape_62 : decode cX4_reshape 62 = .ok (.bipush 14, 2) := by decide +kernel
theorem dX4_reshape_64 : decode cX4_reshape 64 = .ok (.imul, 1) := by decide +kernel
theorem dX4_reshape_65 : decode cX4_reshape 65 = .ok (.iload 5, 2) := by decide +kernel
theorem dX4_reshape_67 : decode cX4_reshape 67 = .ok (.iadd, 1) := by decide +kernel
theorem dX4_reshape_68 : decode cX4_reshape 68 = .ok (.iload_n 3, 1) := by decide +kernel
theorem dX4_reshape_69 : decode cX4_reshape 69 = .ok (.iastore, 1) := by decide +kernel
theorem dX4_reshape_70 : decode cX4_reshape 70 = .ok (.aload_n 0, 1) := by decide +kernel
theorem dX4_reshape_71 : decode cX4_reshape 71 = .ok (.getfield 25, 3) := by decide +kernel
theorem dX4_reshape_74 : decode cX4_reshape 74 = .ok (.iload 4, 2) := by decide +kernel
theorem dX4_reshape_76 : decode cX4_reshape 76 = .ok (.dup2, 1) := by decide +kernel
theorem dX4_reshape_77 : decode cX4_reshape 77 = .ok (.iaload, 1) := by decide +kernel
theorem dX4_reshape_78 : decode cX4_reshape 78 = .ok (.iload_n 3, 1) := by decide +kernel
theorem dX4_reshape_79 : decode cX4_reshape 79 = .ok (.iload_n 2, 1) := by decide +kernel
theorem dX4_reshape_80 : decode cX4_reshape 80 = .ok (.isub, 1) := by decide +kernel
theorem dX4_reshape_81 : decode cX4_reshape 81 = .ok (.iadd, 1) := by decide +kernel
theorem dX4_reshape_82 : decode cX4_reshape 82 = .ok (.iastore, 1) := by decide +kernel
theorem dX4_reshape_83 : decode cX4_reshape 83 = .ok (.iload_n 3, 1) := by decide +kernel
theorem dX4_reshape_84 : decode cX4_reshape 84 = .ok (.iload_n 2, 1) := by decide +kernel
theorem dX4_reshape_85 : decode cX4_reshape 85 = .ok (.if_icmp .le 10, 3) := by decide +kernel
theorem dX4_reshape_88 : decode cX4_reshape 88 = .ok (.aload_n 0, 1) := by decide +kernel
theorem dX4_reshape_89 : decode cX4_reshape 89 = .ok (.iload 4, 2) := by decide +kernel
theorem dX4_reshape_91 : decode cX4_reshape 91 = .ok (.invokevirtual 86, 3) := by decide +kernel
theorem dX4_reshape_94 : decode cX4_reshape 94 = .ok (.ireturn, 1) := by decide +kernel
theorem dX4_reshape_95 : decode cX4_reshape 95 = .ok (.aload_n 0, 1) := by decide +kernel
theorem dX4_reshape_96 : decode cX4_reshape 96 = .ok (.iload 4, 2) := by decide +kernel
theorem dX4_reshape_98 : decode cX4_reshape 98 = .ok (.invokevirtual 94, 3) := by decide +kernel
theorem dX4_reshape_101 : decode cX4_reshape 101 = .ok (.iconst 1, 1) := by decide +kernel
theorem dX4_reshape_102 : decode cX4_reshape 102 = .ok (.ireturn, 1) := by decide +kernel
theorem dX4_openSlot_0 : decode cX4_openSlot 0 = .ok (.aload_n 0, 1) := by decide +kernel
theorem dX4_openSlot_1 : decode cX4_openSlot 1 = .ok (.getfield 22, 3) := by decide +kernel
theorem dX4_openSlot_4 : decode cX4_openSlot 4 = .ok (.iload_n 1, 1) := by decide +kernel
theorem dX4_openSlot_5 : decode cX4_openSlot 5 = .ok (.iaload, 1) := by decide +kernel
theorem dX4_openSlot_6 : decode cX4_openSlot 6 = .ok (.iload_n 2, 1) := by decide +kernel
theorem dX4_openSlot_7 : decode cX4_openSlot 7 = .ok (.isub, 1) := by decide +kernel
theorem dX4_openSlot_8 : decode cX4_openSlot 8 = .ok (.istore 6, 2) := by decide +kernel
theorem dX4_openSlot_10 : decode cX4_openSlot 10 = .ok (.iload_n 2, 1) := by decide +kernel
theorem dX4_openSlot_11 : decode cX4_openSlot 11 = .ok (.ifCond .lt 19, 3) := by decide +kernel
theorem dX4_openSlot_14 : decode cX4_openSlot 14 = .ok (.iload 6, 2) := by decide +kernel
theorem dX4_openSlot_16 : decode cX4_openSlot 16 = .ok (.ifCond .lt 14, 3) := by decide +kernel
theorem dX4_openSlot_19 : decode cX4_openSlot 19 = .ok (.aload_n 0, 1) := by decide +kernel
theorem dX4_openSlot_20 : decode cX4_openSlot 20 = .ok (.getfield 22, 3) := by decide +kernel
theorem dX4_openSlot_23 : decode cX4_openSlot 23 = .ok (.iload_n 1, 1) := by decide +kernel
theorem dX4_openSlot_24 : decode cX4_openSlot 24 = .ok (.iaload, 1) := by decide +kernel
theorem dX4_openSlot_25 : decode cX4_openSlot 25 = .ok (.bipush 14, 2) := by decide +kernel
theorem dX4_openSlot_27 : decode cX4_openSlot 27 = .ok (.if_icmp .lt 4, 3) := by decide +kernel
theorem dX4_openSlot_30 : decode cX4_openSlot 30 = .ok (.return_, 1) := by decide +kernel
theorem dX4_openSlot_31 : decode cX4_openSlot 31 = .ok (.iload_n 1, 1) := by decide +kernel
theorem dX4_openSlot_32 : decode cX4_openSlot 32 = .ok (.bipush 14, 2) := by decide +kernel
theorem dX4_openSlot_34 : decode cX4_openSlot 34 = .ok (.imul, 1) := by decide +kernel
theorem dX4_openSlot_35 : decode cX4_openSlot 35 = .ok (.iload_n 2, 1) := by decide +kernel
theorem dX4_openSlot_36 : decode cX4_openSlot 36 = .ok (.iadd, 1) := by decide +kernel
theorem dX4_openSlot_37 : decode cX4_openSlot 37 = .ok (.istore 7, 2) := by decide +kernel
theorem dX4_openSlot_39 : decode cX4_openSlot 39 = .ok (.aload_n 0, 1) := by decide +kernel
theorem dX4_openSlot_40 : decode cX4_openSlot 40 = .ok (.getfield 40, 3) := by decide +kernel
theorem dX4_openSlot_43 : decode cX4_openSlot 43 = .ok (.iload 7, 2) := by decide +kernel
theorem dX4_openSlot_45 : decode cX4_openSlot 45 = .ok (.aload_n 0, 1) := by decide +kernel
theorem dX4_openSlot_46 : decode cX4_openSlot 46 = .ok (.getfield 40, 3) := by decide +kernel
theorem dX4_openSlot_49 : decode cX4_openSlot 49 = .ok (.iload 7, 2) := by decide +kernel
theorem dX4_openSlot_51 : decode cX4_openSlot 51 = .ok (.iconst 1, 1) := by decide +kernel
theorem dX4_openSlot_52 : decode cX4_openSlot 52 = .ok (.iadd, 1) := by decide +kernel
theorem dX4_openSlot_53 : decode cX4_openSlot 53 = .ok (.iload 6, 2) := by decide +kernel
theorem dX4_openSlot_55 : decode cX4_openSlot 55 = .ok (.invokestatic 64, 3) := by decide +kernel
theorem dX4_openSlot_58 : decode cX4_openSlot 58 = .ok (.aload_n 0, 1) := by decide +kernel
theorem dX4_openSlot_59 : decode cX4_openSlot 59 = .ok (.getfield 43, 3) := by decide +kernel
theorem dX4_openSlot_62 : decode cX4_openSlot 62 = .ok (.iload 7, 2) := by decide +kernel
theorem dX4_openSlot_64 : decode cX4_openSlot 64 = .ok (.aload_n 0, 1) := by decide +kernel
theorem dX4_openSlot_65 : decode cX4_openSlot 65 = .ok (.getfield 43, 3) := by decide +kernel
theorem dX4_openSlot_68 : decode cX4_openSlot 68 = .ok (.iload 7, 2) := by decide +kernel
theorem dX4_openSlot_70 : decode cX4_openSlot 70 = .ok (.iconst 1, 1) := by decide +kernel
theorem dX4_openSlot_71 : decode cX4_openSlot 71 = .ok (.iadd, 1) := by decide +kernel
theorem dX4_openSlot_72 : decode cX4_openSlot 72 = .ok (.iload 6, 2) := by decide +kernel
theorem dX4_openSlot_74 : decode cX4_openSlot 74 = .ok (.invokestatic 64, 3) := by decide +kernel
theorem dX4_openSlot_77 : decode cX4_openSlot 77 = .ok (.aload_n 0, 1) := by decide +kernel
theorem dX4_openSlot_78 : decode cX4_openSlot 78 = .ok (.getfield 46, 3) := by decide +kernel
theorem dX4_openSlot_81 : decode cX4_openSlot 81 = .ok (.iload 7, 2) := by decide +kernel
theorem dX4_openSlot_83 : decode cX4_openSlot 83 = .ok (.aload_n 0, 1) := by decide +kernel
theorem dX4_openSlot_84 : decode cX4_openSlot 84 = .ok (.getfield 46, 3) := by decide +kernel
theorem dX4_openSlot_87 : decode cX4_openSlot 87 = .ok (.iload 7, 2) := by decide +kernel
theorem dX4_openSlot_89 : decode cX4_openSlot 89 = .ok (.iconst 1, 1) := by decide +kernel
theorem dX4_openSlot_90 : decode cX4_openSlot 90 = .ok (.iadd, 1) := by decide +kernel
theorem dX4_openSlot_91 : decode cX4_openSlot 91 = .ok (.iload 6, 2) := by decide +kernel
theorem dX4_openSlot_93 : decode cX4_openSlot 93 = .ok (.invokestatic 64, 3) := by decide +kernel
theorem dX4_openSlot_96 : decode cX4_openSlot 96 = .ok (.aload_n 0, 1) := by decide +kernel
theorem dX4_openSlot_97 : decode cX4_openSlot 97 = .ok (.getfield 40, 3) := by decide +kernel
theorem dX4_openSlot_100 : decode cX4_openSlot 100 = .ok (.iload 7, 2) := by decide +kernel
theorem dX4_openSlot_102 : decode cX4_openSlot 102 = .ok (.iload_n 3, 1) := by decide +kernel
theorem dX4_openSlot_103 : decode cX4_openSlot 103 = .ok (.iastore, 1) := by decide +kernel
theorem dX4_openSlot_104 : decode cX4_openSlot 104 = .ok (.aload_n 0, 1) := by decide +kernel
theorem dX4_openSlot_105 : decode cX4_openSlot 105 = .ok (.getfield 43, 3) := by decide +kernel
theorem dX4_openSlot_108 : decode cX4_openSlot 108 = .ok (.iload 7, 2) := by decide +kernel
theorem dX4_openSlot_110 : decode cX4_openSlot 110 = .ok (.iload 4, 2) := by decide +kernel
theorem dX4_openSlot_112 : decode cX4_openSlot 112 = .ok (.iastore, 1) := by decide +kernel
theorem dX4_openSlot_113 : decode cX4_openSlot 113 = .ok (.aload_n 0, 1) := by decide +kernel
theorem dX4_openSlot_114 : decode cX4_openSlot 114 = .ok (.getfield 46, 3) := by decide +kernel
theorem dX4_openSlot_117 : decode cX4_openSlot 117 = .ok (.iload 7, 2) := by decide +kernel
theorem dX4_openSlot_119 : decode cX4_openSlot 119 = .ok (.iload 5, 2) := by decide +kernel
theorem dX4_openSlot_121 : decode cX4_openSlot 121 = .ok (.iastore, 1) := by decide +kernel
theorem dX4_openSlot_122 : decode cX4_openSlot 122 = .ok (.aload_n 0, 1) := by decide +kernel
theorem dX4_openSlot_123 : decode cX4_openSlot 123 = .ok (.getfield 22, 3) := by decide +kernel
theorem dX4_openSlot_126 : decode cX4_openSlot 126 = .ok (.iload_n 1, 1) := by decide +kernel
theorem dX4_openSlot_127 : decode cX4_openSlot 127 = .ok (.dup2, 1) := by decide +kernel
theorem dX4_openSlot_128 : decode cX4_openSlot 128 = .ok (.iaload, 1) := by decide +kernel
theorem dX4_openSlot_129 : decode cX4_openSlot 129 = .ok (.iconst 1, 1) := by decide +kernel
theorem dX4_openSlot_130 : decode cX4_openSlot 130 = .ok (.iadd, 1) := by decide +kernel
theorem dX4_openSlot_131 : decode cX4_openSlot 131 = .ok (.iastore, 1) := by decide +kernel
theorem dX4_openSlot_132 : decode cX4_openSlot 132 = .ok (.aload_n 0, 1) := by decide +kernel
theorem dX4_openSlot_133 : decode cX4_openSlot 133 = .ok (.getfield 25, 3) := by decide +kernel
theorem dX4_openSlot_136 : decode cX4_openSlot 136 = .ok (.iload_n 1, 1) := by decide +kernel
theorem dX4_openSlot_137 : decode cX4_openSlot 137 = .ok (.dup2, 1) := by decide +kernel
theorem dX4_openSlot_138 : decode cX4_openSlot 138 = .ok (.iaload, 1) := by decide +kernel
theorem dX4_openSlot_139 : decode cX4_openSlot 139 = .ok (.bipush 8, 2) := by decide +kernel
theorem dX4_openSlot_141 : decode cX4_openSlot 141 = .ok (.iload 4, 2) := by decide +kernel
theorem dX4_openSlot_143 : decode cX4_openSlot 143 = .ok (.iadd, 1) := by decide +kernel
theorem dX4_openSlot_144 : decode cX4_openSlot 144 = .ok (.iadd, 1) := by decide +kernel
theorem dX4_openSlot_145 : decode cX4_openSlot 145 = .ok (.iastore, 1) := by decide +kernel
theorem dX4_openSlot_146 : decode cX4_openSlot 146 = .ok (.return_, 1) := by decide +kernel
theorem dX4_closeSlot_0 : decode cX4_closeSlot 0 = .ok (.aload_n 0, 1) := by decide +kernel
theorem dX4_closeSlot_1 : decode cX4_closeSlot 1 = .ok (.getfield 22, 3) := by decide +kernel
theorem dX4_closeSlot_4 : decode cX4_closeSlot 4 = .ok (.iload_n 1, 1) := by decide +kernel
theorem dX4_closeSlot_5 : decode cX4_closeSlot 5 = .ok (.iaload, 1) := by decide +kernel
theorem dX4_closeSlot_6 : decode cX4_closeSlot 6 = .ok (.iload_n 2, 1) := by decide +kernel
theorem dX4_closeSlot_7 : decode cX4_closeSlot 7 = .ok (.isub, 1) := by decide +kernel
theorem dX4_closeSlot_8 : decode cX4_closeSlot 8 = .ok (.iconst 1, 1) := by decide +kernel
theorem dX4_closeSlot_9 : decode cX4_closeSlot 9 = .ok (.isub, 1) := by decide +kernel
theorem dX4_closeSlot_10 : decode cX4_closeSlot 10 = .ok (.istore_n 3, 1) := by decide +kernel
theorem dX4_closeSlot_11 : decode cX4_closeSlot 11 = .ok (.iload_n 2, 1) := by decide +kernel
theorem dX4_closeSlot_12 : decode cX4_closeSlot 12 = .ok (.ifCond .lt 7, 3) := by decide +kernel
theorem dX4_closeSlot_15 : decode cX4_closeSlot 15 = .ok (.iload_n 3, 1) := by decide +kernel
theorem dX4_closeSlot_16 : decode cX4_closeSlot 16 = .ok (.ifCond .ge 4, 3) := by decide +kernel
theorem dX4_closeSlot_19 : decode cX4_closeSlot 19 = .ok (.return_, 1) := by decide +kernel
theorem dX4_closeSlot_20 : decode cX4_closeSlot 20 = .ok (.iload_n 1, 1) := by decide +kernel
theorem dX4_closeSlot_21 : decode cX4_closeSlot 21 = .ok (.bipush 14, 2) := by decide +kernel
theorem dX4_closeSlot_23 : decode cX4_closeSlot 23 = .ok (.imul, 1) := by decide +kernel
theorem dX4_closeSlot_24 : decode cX4_closeSlot 24 = .ok (.iload_n 2, 1) := by decide +kernel
theorem dX4_closeSlot_25 : decode cX4_closeSlot 25 = .ok (.iadd, 1) := by decide +kernel
theorem dX4_closeSlot_26 : decode cX4_closeSlot 26 = .ok (.istore 4, 2) := by decide +kernel
theorem dX4_closeSlot_28 : decode cX4_closeSlot 28 = .ok (.aload_n 0, 1) := by decide +kernel
theorem dX4_closeSlot_29 : decode cX4_closeSlot 29 = .ok (.getfield 25, 3) := by decide +kernel
theorem dX4_closeSlot_32 : decode cX4_closeSlot 32 = .ok (.iload_n 1, 1) := by decide +kernel
theorem dX4_closeSlot_33 : decode cX4_closeSlot 33 = .ok (.dup2, 1) := by decide +kernel
theorem dX4_closeSlot_34 : decode cX4_closeSlot 34 = .ok (.iaload, 1) := by decide +kernel
theorem dX4_closeSlot_35 : decode cX4_closeSlot 35 = .ok (.bipush 8, 2) := by decide +kernel
theorem dX4_closeSlot_37 : decode cX4_closeSlot 37 = .ok (.aload_n 0, 1) := by decide +kernel
theorem dX4_closeSlot_38 : decode cX4_closeSlot 38 = .ok (.getfield 43, 3) := by decide +kernel
theorem dX4_closeSlot_41 : decode cX4_closeSlot 41 = .ok (.iload 4, 2) := by decide +kernel
theorem dX4_closeSlot_43 : decode cX4_closeSlot 43 = .ok (.iaload, 1) := by decide +kernel
theorem dX4_closeSlot_44 : decode cX4_closeSlot 44 = .ok (.iadd, 1) := by decide +kernel
theorem dX4_closeSlot_45 : decode cX4_closeSlot 45 = .ok (.isub, 1) := by decide +kernel
theorem dX4_closeSlot_46 : decode cX4_closeSlot 46 = .ok (.iastore, 1) := by decide +kernel
theorem dX4_closeSlot_47 : decode cX4_closeSlot 47 = .ok (.aload_n 0, 1) := by decide +kernel
theorem dX4_closeSlot_48 : decode cX4_closeSlot 48 = .ok (.getfield 22, 3) := by decide +kernel
theorem dX4_closeSlot_51 : decode cX4_closeSlot 51 = .ok (.iload_n 1, 1) := by decide +kernel
theorem dX4_closeSlot_52 : decode cX4_closeSlot 52 = .ok (.dup2, 1) := by decide +kernel
theorem dX4_closeSlot_53 : decode cX4_closeSlot 53 = .ok (.iaload, 1) := by decide +kernel
theorem dX4_closeSlot_54 : decode cX4_closeSlot 54 = .ok (.iconst 1, 1) := by decide +kernel
theorem dX4_closeSlot_55 : decode cX4_closeSlot 55 = .ok (.isub, 1) := by decide +kernel
theorem dX4_closeSlot_56 : decode cX4_closeSlot 56 = .ok (.iastore, 1) := by decide +kernel
theorem dX4_closeSlot_57 : decode cX4_closeSlot 57 = .ok (.aload_n 0, 1) := by decide +kernel
theorem dX4_closeSlot_58 : decode cX4_closeSlot 58 = .ok (.getfield 40, 3) := by decide +kernel
theorem dX4_closeSlot_61 : decode cX4_closeSlot 61 = .ok (.iload 4, 2) := by decide +kernel
theorem dX4_closeSlot_63 : decode cX4_closeSlot 63 = .ok (.iconst 1, 1) := by decide +kernel
theorem dX4_closeSlot_64 : decode cX4_closeSlot 64 = .ok (.iadd, 1) := by decide +kernel
theorem dX4_closeSlot_65 : decode cX4_closeSlot 65 = .ok (.aload_n 0, 1) := by decide +kernel
theorem dX4_closeSlot_66 : decode cX4_closeSlot 66 = .ok (.getfield 40, 3) := by decide +kernel
theorem dX4_closeSlot_69 : decode cX4_closeSlot 69 = .ok (.iload 4, 2) := by decide +kernel
theorem dX4_closeSlot_71 : decode cX4_closeSlot 71 = .ok (.iload_n 3, 1) := by decide +kernel
theorem dX4_closeSlot_72 : decode cX4_closeSlot 72 = .ok (.invokestatic 64, 3) := by decide +kernel
theorem dX4_closeSlot_75 : decode cX4_closeSlot 75 = .ok (.aload_n 0, 1) := by decide +kernel
theorem dX4_closeSlot_76 : decode cX4_closeSlot 76 = .ok (.getfield 43, 3) := by decide +kernel
theorem dX4_closeSlot_79 : decode cX4_closeSlot 79 = .ok (.iload 4, 2) := by decide +kernel
theorem dX4_closeSlot_81 : decode cX4_closeSlot 81 = .ok (.iconst 1, 1) := by decide +kernel
theorem dX4_closeSlot_82 : decode cX4_closeSlot 82 = .ok (.iadd, 1) := by decide +kernel
theorem dX4_closeSlot_83 : decode cX4_closeSlot 83 = .ok (.aload_n 0, 1) := by decide +kernel
theorem dX4_closeSlot_84 : decode cX4_closeSlot 84 = .ok (.getfield 43, 3) := by decide +kernel
theorem dX4_closeSlot_87 : decode cX4_closeSlot 87 = .ok (.iload 4, 2) := by decide +kernel
theorem dX4_closeSlot_89 : decode cX4_closeSlot 89 = .ok (.iload_n 3, 1) := by decide +kernel
theorem dX4_closeSlot_90 : decode cX4_closeSlot 90 = .ok (.invokestatic 64, 3) := by decide +kernel
theorem dX4_closeSlot_93 : decode cX4_closeSlot 93 = .ok (.aload_n 0, 1) := by decide +kernel
theorem dX4_closeSlot_94 : decode cX4_closeSlot 94 = .ok (.getfield 46, 3) := by decide +kernel
theorem dX4_closeSlot_97 : decode cX4_closeSlot 97 = .ok (.iload 4, 2) := by decide +kernel
theorem dX4_closeSlot_99 : decode cX4_closeSlot 99 = .ok (.iconst 1, 1) := by decide +kernel
theorem dX4_closeSlot_100 : decode cX4_closeSlot 100 = .ok (.iadd, 1) := by decide +kernel
theorem dX4_closeSlot_101 : decode cX4_closeSlot 101 = .ok (.aload_n 0, 1) := by decide +kernel
theorem dX4_closeSlot_102 : decode cX4_closeSlot 102 = .ok (.getfield 46, 3) := by decide +kernel
theorem dX4_closeSlot_105 : decode cX4_closeSlot 105 = .ok (.iload 4, 2) := by decide +kernel
theorem dX4_closeSlot_107 : decode cX4_closeSlot 107 = .ok (.iload_n 3, 1) := by decide +kernel
theorem dX4_closeSlot_108 : decode cX4_closeSlot 108 = .ok (.invokestatic 64, 3) := by decide +kernel
theorem dX4_closeSlot_111 : decode cX4_closeSlot 111 = .ok (.return_, 1) := by decide +kernel
theorem dX4_shiftItem_0 : decode cX4_shiftItem 0 = .ok (.iload_n 1, 1) := by decide +kernel
theorem dX4_shiftItem_1 : decode cX4_shiftItem 1 = .ok (.bipush 14, 2) := by decide +kernel
theorem dX4_shiftItem_3 : decode cX4_shiftItem 3 = .ok (.imul, 1) := by decide +kernel
theorem dX4_shiftItem_4 : decode cX4_shiftItem 4 = .ok (.iload_n 2, 1) := by decide +kernel
theorem dX4_shiftItem_5 : decode cX4_shiftItem 5 = .ok (.iadd, 1) := by decide +kernel
theorem dX4_shiftItem_6 : decode cX4_shiftItem 6 = .ok (.istore 5, 2) := by decide +kernel
theorem dX4_shiftItem_8 : decode cX4_shiftItem 8 = .ok (.aload_n 0, 1) := by decide +kernel
theorem dX4_shiftItem_9 : decode cX4_shiftItem 9 = .ok (.iload_n 3, 1) := by decide +kernel
theorem dX4_shiftItem_10 : decode cX4_shiftItem 10 = .ok (.iload 4, 2) := by decide +kernel
theorem dX4_shiftItem_12 : decode cX4_shiftItem 12 = .ok (.aload_n 0, 1) := by decide +kernel
theorem dX4_shiftItem_13 : decode cX4_shiftItem 13 = .ok (.getfield 40, 3) := by decide +kernel
theorem dX4_shiftItem_16 : decode cX4_shiftItem 16 = .ok (.iload 5, 2) := by decide +kernel
theorem dX4_shiftItem_18 : decode cX4_shiftItem 18 = .ok (.iaload, 1) := by decide +kernel
theorem dX4_shiftItem_19 : decode cX4_shiftItem 19 = .ok (.aload_n 0, 1) := by decide +kernel
theorem dX4_shiftItem_20 : decode cX4_shiftItem 20 = .ok (.getfield 43, 3) := by decide +kernel
theorem dX4_shiftItem_23 : decode cX4_shiftItem 23 = .ok (.iload 5, 2) := by decide +kernel
theorem dX4_shiftItem_25 : decode cX4_shiftItem 25 = .ok (.iaload, 1) := by decide +kernel
theorem dX4_shiftItem_26 : decode cX4_shiftItem 26 = .ok (.aload_n 0, 1) := by decide +kernel
theorem dX4_shiftItem_27 : decode cX4_shiftItem 27 = .ok (.getfield 46, 3) := by decide +kernel
theorem dX4_shiftItem_30 : decode cX4_shiftItem 30 = .ok (.iload 5, 2) := by decide +kernel
theorem dX4_shiftItem_32 : decode cX4_shiftItem 32 = .ok (.iaload, 1) := by decide +kernel
theorem dX4_shiftItem_33 : decode cX4_shiftItem 33 = .ok (.invokevirtual 60, 3) := by decide +kernel
theorem dX4_shiftItem_36 : decode cX4_shiftItem 36 = .ok (.aload_n 0, 1) := by decide +kernel
theorem dX4_shiftItem_37 : decode cX4_shiftItem 37 = .ok (.iload_n 1, 1) := by decide +kernel
theorem dX4_shiftItem_38 : decode cX4_shiftItem 38 = .ok (.iload_n 2, 1) := by decide +kernel
theorem dX4_shiftItem_39 : decode cX4_shiftItem 39 = .ok (.invokevirtual 90, 3) := by decide +kernel
theorem dX4_shiftItem_42 : decode cX4_shiftItem 42 = .ok (.return_, 1) := by decide +kernel
theorem dX4_fits_0 : decode cX4_fits 0 = .ok (.iload_n 2, 1) := by decide +kernel
theorem dX4_fits_1 : decode cX4_fits 1 = .ok (.iconst (-1), 1) := by decide +kernel
theorem dX4_fits_2 : decode cX4_fits 2 = .ok (.if_icmp .eq 28, 3) := by decide +kernel
theorem dX4_fits_5 : decode cX4_fits 5 = .ok (.aload_n 0, 1) := by decide +kernel
theorem dX4_fits_6 : decode cX4_fits 6 = .ok (.getfield 25, 3) := by decide +kernel
theorem dX4_fits_9 : decode cX4_fits 9 = .ok (.iload_n 2, 1) := by decide +kernel
theorem dX4_fits_10 : decode cX4_fits 10 = .ok (.iaload, 1) := by decide +kernel
theorem dX4_fits_11 : decode cX4_fits 11 = .ok (.bipush 8, 2) := by decide +kernel
theorem dX4_fits_13 : decode cX4_fits 13 = .ok (.iadd, 1) := by decide +kernel
theorem dX4_fits_14 : decode cX4_fits 14 = .ok (.aload_n 0, 1) := by decide +kernel
theorem dX4_fits_15 : decode cX4_fits 15 = .ok (.getfield 43, 3) := by decide +kernel
theorem dX4_fits_18 : decode cX4_fits 18 = .ok (.iload_n 1, 1) := by decide +kernel
theorem dX4_fits_19 : decode cX4_fits 19 = .ok (.iaload, 1) := by decide +kernel
theorem dX4_fits_20 : decode cX4_fits 20 = .ok (.iadd, 1) := by decide +kernel
theorem dX4_fits_21 : decode cX4_fits 21 = .ok (.bipush 120, 2) := by decide +kernel
theorem dX4_fits_23 : decode cX4_fits 23 = .ok (.if_icmp .gt 7, 3) := by decide +kernel
theorem dX4_fits_26 : decode cX4_fits 26 = .ok (.iconst 1, 1) := by decide +kernel
theorem dX4_fits_27 : decode cX4_fits 27 = .ok (.goto 4, 3) := by decide +kernel
theorem dX4_fits_30 : decode cX4_fits 30 = .ok (.iconst 0, 1) := by decide +kernel
theorem dX4_fits_31 : decode cX4_fits 31 = .ok (.ireturn, 1) := by decide +kernel
theorem dX4_relieve_0 : decode cX4_relieve 0 = .ok (.iload_n 1, 1) := by decide +kernel
theorem dX4_relieve_1 : decode cX4_relieve 1 = .ok (.bipush 14, 2) := by decide +kernel
theorem dX4_relieve_3 : decode cX4_relieve 3 = .ok (.imul, 1) := by decide +kernel
theorem dX4_relieve_4 : decode cX4_relieve 4 = .ok (.istore_n 2, 1) := by decide +kernel
theorem dX4_relieve_5 : decode cX4_relieve 5 = .ok (.aload_n 0, 1) := by decide +kernel
theorem dX4_relieve_6 : decode cX4_relieve 6 = .ok (.getfield 31, 3) := by decide +kernel
theorem dX4_relieve_9 : decode cX4_relieve 9 = .ok (.iload_n 1, 1) := by decide +kernel
theorem dX4_relieve_10 : decode cX4_relieve 10 = .ok (.iaload, 1) := by decide +kernel
theorem dX4_relieve_11 : decode cX4_relieve 11 = .ok (.istore_n 3, 1) := by decide +kernel
theorem dX4_relieve_12 : decode cX4_relieve 12 = .ok (.aload_n 0, 1) := by decide +kernel
theorem dX4_relieve_13 : decode cX4_relieve 13 = .ok (.getfield 34, 3) := by decide +kernel
theorem dX4_relieve_16 : decode cX4_relieve 16 = .ok (.iload_n 1, 1) := by decide +kernel
theorem dX4_relieve_17 : decode cX4_relieve 17 = .ok (.iaload, 1) := by decide +kernel
theorem dX4_relieve_18 : decode cX4_relieve 18 = .ok (.istore 4, 2) := by decide +kernel
theorem dX4_relieve_20 : decode cX4_relieve 20 = .ok (.iconst 0, 1) := by decide +kernel
theorem dX4_relieve_21 : decode cX4_relieve 21 = .ok (.istore 5, 2) := by decide +kernel
theorem dX4_relieve_23 : decode cX4_relieve 23 = .ok (.iload 5, 2) := by decide +kernel
theorem dX4_relieve_25 : decode cX4_relieve 25 = .ok (.bipush 14, 2) := by decide +kernel
theorem dX4_relieve_27 : decode cX4_relieve 27 = .ok (.if_icmp .ge 42, 3) := by decide +kernel
theorem dX4_relieve_30 : decode cX4_relieve 30 = .ok (.aload_n 0, 1) := by decide +kernel
theorem dX4_relieve_31 : decode cX4_relieve 31 = .ok (.getfield 25, 3) := by decide +kernel
theorem dX4_relieve_34 : decode cX4_relieve 34 = .ok (.iload_n 1, 1) := by decide +kernel
theorem dX4_relieve_35 : decode cX4_relieve 35 = .ok (.iaload, 1) := by decide +kernel
theorem dX4_relieve_36 : decode cX4_relieve 36 = .ok (.bipush 120, 2) := by decide +kernel
theorem dX4_relieve_38 : decode cX4_relieve 38 = .ok (.if_icmp .le 31, 3) := by decide +kernel
theorem dX4_relieve_41 : decode cX4_relieve 41 = .ok (.aload_n 0, 1) := by decide +kernel
theorem dX4_relieve_42 : decode cX4_relieve 42 = .ok (.iload_n 2, 1) := by decide +kernel
theorem dX4_relieve_43 : decode cX4_relieve 43 = .ok (.iload_n 3, 1) := by decide +kernel
theorem dX4_relieve_44 : decode cX4_relieve 44 = .ok (.invokevirtual 98, 3) := by decide +kernel
theorem dX4_relieve_47 : decode cX4_relieve 47 = .ok (.ifCond .eq 22, 3) := by decide +kernel
theorem dX4_relieve_50 : decode cX4_relieve 50 = .ok (.aload_n 0, 1) := by decide +kernel
theorem dX4_relieve_51 : decode cX4_relieve 51 = .ok (.iload_n 1, 1) := by decide +kernel
theorem dX4_relieve_52 : decode cX4_relieve 52 = .ok (.iconst 0, 1) := by decide +kernel
theorem dX4_relieve_53 : decode cX4_relieve 53 = .ok (.iload_n 3, 1) := by decide +kernel
theorem dX4_relieve_54 : decode cX4_relieve 54 = .ok (.aload_n 0, 1) := by decide +kernel
theorem dX4_relieve_55 : decode cX4_relieve 55 = .ok (.getfield 22, 3) := by decide +kernel
theorem dX4_relieve_58 : decode cX4_relieve 58 = .ok (.iload_n 3, 1) := by decide +kernel
theorem dX4_relieve_59 : decode cX4_relieve 59 = .ok (.iaload, 1) := by decide +kernel
theorem dX4_relieve_60 : decode cX4_relieve 60 = .ok (.invokevirtual 102, 3) := by decide +kernel
theorem dX4_relieve_63 : decode cX4_relieve 63 = .ok (.iinc 5 1, 3) := by decide +kernel
theorem dX4_relieve_66 : decode cX4_relieve 66 = .ok (.goto (-43), 3) := by decide +kernel
theorem dX4_relieve_69 : decode cX4_relieve 69 = .ok (.iconst 0, 1) := by decide +kernel
theorem dX4_relieve_70 : decode cX4_relieve 70 = .ok (.istore 5, 2) := by decide +kernel
theorem dX4_relieve_72 : decode cX4_relieve 72 = .ok (.iload 5, 2) := by decide +kernel
theorem dX4_relieve_74 : decode cX4_relieve 74 = .ok (.bipush 14, 2) := by decide +kernel
theorem dX4_relieve_76 : decode cX4_relieve 76 = .ok (.if_icmp .ge 55, 3) := by decide +kernel
theorem dX4_relieve_79 : decode cX4_relieve 79 = .ok (.aload_n 0, 1) := by decide +kernel
theorem dX4_relieve_80 : decode cX4_relieve 80 = .ok (.getfield 25, 3) := by decide +kernel
theorem dX4_relieve_83 : decode cX4_relieve 83 = .ok (.iload_n 1, 1) := by decide +kernel
theorem dX4_relieve_84 : decode cX4_relieve 84 = .ok (.iaload, 1) := by decide +kernel
theorem dX4_relieve_85 : decode cX4_relieve 85 = .ok (.bipush 120, 2) := by decide +kernel
theorem dX4_relieve_87 : decode cX4_relieve 87 = .ok (.if_icmp .le 44, 3) := by decide +kernel
theorem dX4_relieve_90 : decode cX4_relieve 90 = .ok (.aload_n 0, 1) := by decide +kernel
theorem dX4_relieve_91 : decode cX4_relieve 91 = .ok (.iload_n 2, 1) := by decide +kernel
theorem dX4_relieve_92 : decode cX4_relieve 92 = .ok (.aload_n 0, 1) := by decide +kernel
theorem dX4_relieve_93 : decode cX4_relieve 93 = .ok (.getfield 22, 3) := by decide +kernel
theorem dX4_relieve_96 : decode cX4_relieve 96 = .ok (.iload_n 1, 1) := by decide +kernel
theorem dX4_relieve_97 : decode cX4_relieve 97 = .ok (.iaload, 1) := by decide +kernel
theorem dX4_relieve_98 : decode cX4_relieve 98 = .ok (.iadd, 1) := by decide +kernel
theorem dX4_relieve_99 : decode cX4_relieve 99 = .ok (.iconst 1, 1) := by decide +kernel
theorem dX4_relieve_100 : decode cX4_relieve 100 = .ok (.isub, 1) := by decide +kernel
theorem dX4_relieve_101 : decode cX4_relieve 101 = .ok (.iload 4, 2) := by decide +kernel
theorem dX4_relieve_103 : decode cX4_relieve 103 = .ok (.invokevirtual 98, 3) := by decide +kernel
theorem dX4_relieve_106 : decode cX4_relieve 106 = .ok (.ifCond .eq 25, 3) := by decide +kernel
theorem dX4_relieve_109 : decode cX4_relieve 109 = .ok (.aload_n 0, 1) := by decide +kernel
theorem dX4_relieve_110 : decode cX4_relieve 110 = .ok (.iload_n 1, 1) := by decide +kernel
theorem dX4_relieve_111 : decode cX4_relieve 111 = .ok (.aload_n 0, 1) := by decide +kernel
theorem dX4_relieve_112 : decode cX4_relieve 112 = .ok (.getfield 22, 3) := by decide +kernel
theorem dX4_relieve_115 : decode cX4_relieve 115 = .ok (.iload_n 1, 1) := by decide +kernel
theorem dX4_relieve_116 : decode cX4_relieve 116 = .ok (.iaload, 1) := by decide +kernel
theorem dX4_relieve_117 : decode cX4_relieve 117 = .ok (.iconst 1, 1) := by decide +kernel
theorem dX4_relieve_118 : decode cX4_relieve 118 = .ok (.isub, 1) := by decide +kernel
theorem dX4_relieve_119 : decode cX4_relieve 119 = .ok (.iload 4, 2) := by decide +kernel
theorem dX4_relieve_121 : decode cX4_relieve 121 = .ok (.iconst 0, 1) := by decide +kernel
theorem dX4_relieve_122 : decode cX4_relieve 122 = .ok (.invokevirtual 102, 3) := by decide +kernel
theorem dX4_relieve_125 : decode cX4_relieve 125 = .ok (.iinc 5 1, 3) := by decide +kernel
theorem dX4_relieve_128 : decode cX4_relieve 128 = .ok (.goto (-56), 3) := by decide +kernel
theorem dX4_relieve_131 : decode cX4_relieve 131 = .ok (.aload_n 0, 1) := by decide +kernel
theorem dX4_relieve_132 : decode cX4_relieve 132 = .ok (.getfield 25, 3) := by decide +kernel
theorem dX4_relieve_135 : decode cX4_relieve 135 = .ok (.iload_n 1, 1) := by decide +kernel
theorem dX4_relieve_136 : decode cX4_relieve 136 = .ok (.iaload, 1) := by decide +kernel
theorem dX4_relieve_137 : decode cX4_relieve 137 = .ok (.bipush 120, 2) := by decide +kernel
theorem dX4_relieve_139 : decode cX4_relieve 139 = .ok (.if_icmp .gt 5, 3) := by decide +kernel
theorem dX4_relieve_142 : decode cX4_relieve 142 = .ok (.iconst 1, 1) := by decide +kernel
theorem dX4_relieve_143 : decode cX4_relieve 143 = .ok (.ireturn, 1) := by decide +kernel
theorem dX4_relieve_144 : decode cX4_relieve 144 = .ok (.aload_n 0, 1) := by decide +kernel
theorem dX4_relieve_145 : decode cX4_relieve 145 = .ok (.iconst 2, 1) := by decide +kernel
theorem dX4_relieve_146 : decode cX4_relieve 146 = .ok (.invokevirtual 49, 3) := by decide +kernel
theorem dX4_relieve_149 : decode cX4_relieve 149 = .ok (.istore 5, 2) := by decide +kernel
theorem dX4_relieve_151 : decode cX4_relieve 151 = .ok (.iload 5, 2) := by decide +kernel
theorem dX4_relieve_153 : decode cX4_relieve 153 = .ok (.iconst (-1), 1) := by decide +kernel
theorem dX4_relieve_154 : decode cX4_relieve 154 = .ok (.if_icmp .ne 5, 3) := by decide +kernel
theorem dX4_relieve_157 : decode cX4_relieve 157 = .ok (.iconst 0, 1) := by decide +kernel
theorem dX4_relieve_158 : decode cX4_relieve 158 = .ok (.ireturn, 1) := by decide +kernel
theorem dX4_relieve_159 : decode cX4_relieve 159 = .ok (.iconst 0, 1) := by decide +kernel
theorem dX4_relieve_160 : decode cX4_relieve 160 = .ok (.istore 6, 2) := by decide +kernel
theorem dX4_relieve_162 : decode cX4_relieve 162 = .ok (.iload 6, 2) := by decide +kernel
theorem dX4_relieve_164 : decode cX4_relieve 164 = .ok (.bipush 14, 2) := by decide +kernel
theorem dX4_relieve_166 : decode cX4_relieve 166 = .ok (.if_icmp .ge 36, 3) := by decide +kernel
theorem dX4_relieve_169 : decode cX4_relieve 169 = .ok (.aload_n 0, 1) := by decide +kernel
theorem dX4_relieve_170 : decode cX4_relieve 170 = .ok (.getfield 25, 3) := by decide +kernel
theorem dX4_relieve_173 : decode cX4_relieve 173 = .ok (.iload_n 1, 1) := by decide +kernel
theorem dX4_relieve_174 : decode cX4_relieve 174 = .ok (.iaload, 1) := by decide +kernel
theorem dX4_relieve_175 : decode cX4_relieve 175 = .ok (.bipush 120, 2) := by decide +kernel
theorem dX4_relieve_177 : decode cX4_relieve 177 = .ok (.if_icmp .le 25, 3) := by decide +kernel
theorem dX4_relieve_180 : decode cX4_relieve 180 = .ok (.aload_n 0, 1) := by decide +kernel
theorem dX4_relieve_181 : decode cX4_relieve 181 = .ok (.iload_n 1, 1) := by decide +kernel
theorem dX4_relieve_182 : decode cX4_relieve 182 = .ok (.aload_n 0, 1) := by decide +kernel
theorem dX4_relieve_183 : decode cX4_relieve 183 = .ok (.getfield 22, 3) := by decide +kernel
theorem dX4_relieve_186 : decode cX4_relieve 186 = .ok (.iload_n 1, 1) := by decide +kernel
theorem dX4_relieve_187 : decode cX4_relieve 187 = .ok (.iaload, 1) := by decide +kernel
theorem dX4_relieve_188 : decode cX4_relieve 188 = .ok (.iconst 1, 1) := by decide +kernel
theorem dX4_relieve_189 : decode cX4_relieve 189 = .ok (.isub, 1) := by decide +kernel
theorem dX4_relieve_190 : decode cX4_relieve 190 = .ok (.iload 5, 2) := by decide +kernel
theorem dX4_relieve_192 : decode cX4_relieve 192 = .ok (.iconst 0, 1) := by decide +kernel
theorem dX4_relieve_193 : decode cX4_relieve 193 = .ok (.invokevirtual 102, 3) := by decide +kernel
theorem dX4_relieve_196 : decode cX4_relieve 196 = .ok (.iinc 6 1, 3) := by decide +kernel
theorem dX4_relieve_199 : decode cX4_relieve 199 = .ok (.goto (-37), 3) := by decide +kernel
theorem dX4_relieve_202 : decode cX4_relieve 202 = .ok (.aload_n 0, 1) := by decide +kernel
theorem dX4_relieve_203 : decode cX4_relieve 203 = .ok (.iload 5, 2) := by decide +kernel
theorem dX4_relieve_205 : decode cX4_relieve 205 = .ok (.iload_n 1, 1) := by decide +kernel
theorem dX4_relieve_206 : decode cX4_relieve 206 = .ok (.invokevirtual 106, 3) := by decide +kernel
theorem dX4_relieve_209 : decode cX4_relieve 209 = .ok (.ireturn, 1) := by decide +kernel
theorem dX4_lookAt_0 : decode cX4_lookAt 0 = .ok (.iload_n 1, 1) := by decide +kernel
theorem dX4_lookAt_1 : decode cX4_lookAt 1 = .ok (.istore_n 2, 1) := by decide +kernel
theorem dX4_lookAt_2 : decode cX4_lookAt 2 = .ok (.iconst 0, 1) := by decide +kernel
theorem dX4_lookAt_3 : decode cX4_lookAt 3 = .ok (.istore_n 3, 1) := by decide +kernel
theorem dX4_lookAt_4 : decode cX4_lookAt 4 = .ok (.iload_n 3, 1) := by decide +kernel
theorem dX4_lookAt_5 : decode cX4_lookAt 5 = .ok (.aload_n 0, 1) := by decide +kernel
theorem dX4_lookAt_6 : decode cX4_lookAt 6 = .ok (.getfield 9, 3) := by decide +kernel
theorem dX4_lookAt_9 : decode cX4_lookAt 9 = .ok (.if_icmp .ge 153, 3) := by decide +kernel
theorem dX4_lookAt_12 : decode cX4_lookAt 12 = .ok (.aload_n 0, 1) := by decide +kernel
theorem dX4_lookAt_13 : decode cX4_lookAt 13 = .ok (.getfield 31, 3) := by decide +kernel
theorem dX4_lookAt_16 : decode cX4_lookAt 16 = .ok (.iload_n 2, 1) := by decide +kernel
theorem dX4_lookAt_17 : decode cX4_lookAt 17 = .ok (.iaload, 1) := by decide +kernel
theorem dX4_lookAt_18 : decode cX4_lookAt 18 = .ok (.istore 4, 2) := by decide +kernel
theorem dX4_lookAt_20 : decode cX4_lookAt 20 = .ok (.aload_n 0, 1) := by decide +kernel
theorem dX4_lookAt_21 : decode cX4_lookAt 21 = .ok (.getfield 34, 3) := by decide +kernel
theorem dX4_lookAt_24 : decode cX4_lookAt 24 = .ok (.iload_n 2, 1) := by decide +kernel
theorem dX4_lookAt_25 : decode cX4_lookAt 25 = .ok (.iaload, 1) := by decide +kernel
theorem dX4_lookAt_26 : decode cX4_lookAt 26 = .ok (.istore 5, 2) := by decide +kernel
theorem dX4_lookAt_28 : decode cX4_lookAt 28 = .ok (.aload_n 0, 1) := by decide +kernel
theorem dX4_lookAt_29 : decode cX4_lookAt 29 = .ok (.getfield 22, 3) := by decide +kernel
theorem dX4_lookAt_32 : decode cX4_lookAt 32 = .ok (.iload_n 2, 1) := by decide +kernel
theorem dX4_lookAt_33 : decode cX4_lookAt 33 = .ok (.iaload, 1) := by decide +kernel
theorem dX4_lookAt_34 : decode cX4_lookAt 34 = .ok (.ifCond .ne 37, 3) := by decide +kernel
theorem dX4_lookAt_37 : decode cX4_lookAt 37 = .ok (.iload 4, 2) := by decide +kernel
theorem dX4_lookAt_39 : decode cX4_lookAt 39 = .ok (.iconst (-1), 1) := by decide +kernel
theorem dX4_lookAt_40 : decode cX4_lookAt 40 = .ok (.if_icmp .ne 9, 3) := by decide +kernel
theorem dX4_lookAt_43 : decode cX4_lookAt 43 = .ok (.iload 5, 2) := by decide +kernel
theorem dX4_lookAt_45 : decode cX4_lookAt 45 = .ok (.iconst (-1), 1) := by decide +kernel
theorem dX4_lookAt_46 : decode cX4_lookAt 46 = .ok (.if_icmp .eq 25, 3) := by decide +kernel
theorem dX4_lookAt_49 : decode cX4_lookAt 49 = .ok (.aload_n 0, 1) := by decide +kernel
theorem dX4_lookAt_50 : decode cX4_lookAt 50 = .ok (.iload_n 2, 1) := by decide +kernel
theorem dX4_lookAt_51 : decode cX4_lookAt 51 = .ok (.invokevirtual 109, 3) := by decide +kernel
theorem dX4_lookAt_54 : decode cX4_lookAt 54 = .ok (.iload 4, 2) := by decide +kernel
theorem dX4_lookAt_56 : decode cX4_lookAt 56 = .ok (.iconst (-1), 1) := by decide +kernel
theorem dX4_lookAt_57 : decode cX4_lookAt 57 = .ok (.if_icmp .eq 8, 3) := by decide +kernel
theorem dX4_lookAt_60 : decode cX4_lookAt 60 = .ok (.iload 4, 2) := by decide +kernel
theorem dX4_lookAt_62 : decode cX4_lookAt 62 = .ok (.goto 5, 3) := by decide +kernel
theorem dX4_lookAt_65 : decode cX4_lookAt 65 = .ok (.iload 5, 2) := by decide +kernel
theorem dX4_lookAt_67 : decode cX4_lookAt 67 = .ok (.istore_n 2, 1) := by decide +kernel
theorem dX4_lookAt_68 : decode cX4_lookAt 68 = .ok (.goto 88, 3) := by decide +kernel
theorem dX4_lookAt_71 : decode cX4_lookAt 71 = .ok (.iload 4, 2) := by decide +kernel
theorem dX4_lookAt_73 : decode cX4_lookAt 73 = .ok (.iconst (-1), 1) := by decide +kernel
theorem dX4_lookAt_74 : decode cX4_lookAt 74 = .ok (.if_icmp .eq 40, 3) := by decide +kernel
theorem dX4_lookAt_77 : decode cX4_lookAt 77 = .ok (.aload_n 0, 1) := by decide +kernel
theorem dX4_lookAt_78 : decode cX4_lookAt 78 = .ok (.getfield 25, 3) := by decide +kernel
theorem dX4_lookAt_81 : decode cX4_lookAt 81 = .ok (.iload 4, 2) := by decide +kernel
theorem dX4_lookAt_83 : decode cX4_lookAt 83 = .ok (.iaload, 1) := by decide +kernel
theorem dX4_lookAt_84 : decode cX4_lookAt 84 = .ok (.aload_n 0, 1) := by decide +kernel
theorem dX4_lookAt_85 : decode cX4_lookAt 85 = .ok (.getfield 25, 3) := by decide +kernel
theorem dX4_lookAt_88 : decode cX4_lookAt 88 = .ok (.iload_n 2, 1) := by decide +kernel
theorem dX4_lookAt_89 : decode cX4_lookAt 89 = .ok (.iaload, 1) := by decide +kernel
theorem dX4_lookAt_90 : decode cX4_lookAt 90 = .ok (.iadd, 1) := by decide +kernel
theorem dX4_lookAt_91 : decode cX4_lookAt 91 = .ok (.bipush 72, 2) := by decide +kernel
theorem dX4_lookAt_93 : decode cX4_lookAt 93 = .ok (.if_icmp .gt 21, 3) := by decide +kernel
theorem dX4_lookAt_96 : decode cX4_lookAt 96 = .ok (.aload_n 0, 1) := by decide +kernel
theorem dX4_lookAt_97 : decode cX4_lookAt 97 = .ok (.iload_n 2, 1) := by decide +kernel
theorem dX4_lookAt_98 : decode cX4_lookAt 98 = .ok (.iload 4, 2) := by decide +kernel
theorem dX4_lookAt_100 : decode cX4_lookAt 100 = .ok (.invokevirtual 112, 3) := by decide +kernel
theorem dX4_lookAt_103 : decode cX4_lookAt 103 = .ok (.aload_n 0, 1) := by decide +kernel
theorem dX4_lookAt_104 : decode cX4_lookAt 104 = .ok (.iload_n 2, 1) := by decide +kernel
theorem dX4_lookAt_105 : decode cX4_lookAt 105 = .ok (.invokevirtual 109, 3) := by decide +kernel
theorem dX4_lookAt_108 : decode cX4_lookAt 108 = .ok (.iload 4, 2) := by decide +kernel
theorem dX4_lookAt_110 : decode cX4_lookAt 110 = .ok (.istore_n 2, 1) := by decide +kernel
theorem dX4_lookAt_111 : decode cX4_lookAt 111 = .ok (.goto 45, 3) := by decide +kernel
theorem dX4_lookAt_114 : decode cX4_lookAt 114 = .ok (.iload 5, 2) := by decide +kernel
theorem dX4_lookAt_116 : decode cX4_lookAt 116 = .ok (.iconst (-1), 1) := by decide +kernel
theorem dX4_lookAt_117 : decode cX4_lookAt 117 = .ok (.if_icmp .eq 38, 3) := by decide +kernel
theorem dX4_lookAt_120 : decode cX4_lookAt 120 = .ok (.aload_n 0, 1) := by decide +kernel
theorem dX4_lookAt_121 : decode cX4_lookAt 121 = .ok (.getfield 25, 3) := by decide +kernel
theorem dX4_lookAt_124 : decode cX4_lookAt 124 = .ok (.iload_n 2, 1) := by decide +kernel
theorem dX4_lookAt_125 : decode cX4_lookAt 125 = .ok (.iaload, 1) := by decide +kernel
theorem dX4_lookAt_126 : decode cX4_lookAt 126 = .ok (.aload_n 0, 1) := by decide +kernel
theorem dX4_lookAt_127 : decode cX4_lookAt 127 = .ok (.getfield 25, 3) := by decide +kernel
theorem dX4_lookAt_130 : decode cX4_lookAt 130 = .ok (.iload 5, 2) := by decide +kernel
theorem dX4_lookAt_132 : decode cX4_lookAt 132 = .ok (.iaload, 1) := by decide +kernel
theorem dX4_lookAt_133 : decode cX4_lookAt 133 = .ok (.iadd, 1) := by decide +kernel
theorem dX4_lookAt_134 : decode cX4_lookAt 134 = .ok (.bipush 72, 2) := by decide +kernel
theorem dX4_lookAt_136 : decode cX4_lookAt 136 = .ok (.if_icmp .gt 19, 3) := by decide +kernel
theorem dX4_lookAt_139 : decode cX4_lookAt 139 = .ok (.aload_n 0, 1) := by decide +kernel
theorem dX4_lookAt_140 : decode cX4_lookAt 140 = .ok (.iload 5, 2) := by decide +kernel
theorem dX4_lookAt_142 : decode cX4_lookAt 142 = .ok (.iload_n 2, 1) := by decide +kernel
theorem dX4_lookAt_143 : decode cX4_lookAt 143 = .ok (.invokevirtual 112, 3) := by decide +kernel
theorem dX4_lookAt_146 : decode cX4_lookAt 146 = .ok (.aload_n 0, 1) := by decide +kernel
theorem dX4_lookAt_147 : decode cX4_lookAt 147 = .ok (.iload 5, 2) := by decide +kernel
theorem dX4_lookAt_149 : decode cX4_lookAt 149 = .ok (.invokevirtual 109, 3) := by decide +kernel
theorem dX4_lookAt_152 : decode cX4_lookAt 152 = .ok (.goto 4, 3) := by decide +kernel
theorem dX4_lookAt_155 : decode cX4_lookAt 155 = .ok (.return_, 1) := by decide +kernel
theorem dX4_lookAt_156 : decode cX4_lookAt 156 = .ok (.iinc 3 1, 3) := by decide +kernel
theorem dX4_lookAt_159 : decode cX4_lookAt 159 = .ok (.goto (-155), 3) := by decide +kernel
theorem dX4_lookAt_162 : decode cX4_lookAt 162 = .ok (.return_, 1) := by decide +kernel
theorem dX4_shiftAll_0 : decode cX4_shiftAll 0 = .ok (.iconst 0, 1) := by decide +kernel
theorem dX4_shiftAll_1 : decode cX4_shiftAll 1 = .ok (.istore_n 3, 1) := by decide +kernel
theorem dX4_shiftAll_2 : decode cX4_shiftAll 2 = .ok (.iload_n 3, 1) := by decide +kernel
theorem dX4_shiftAll_3 : decode cX4_shiftAll 3 = .ok (.bipush 14, 2) := by decide +kernel
theorem dX4_shiftAll_5 : decode cX4_shiftAll 5 = .ok (.if_icmp .ge 31, 3) := by decide +kernel
theorem dX4_shiftAll_8 : decode cX4_shiftAll 8 = .ok (.aload_n 0, 1) := by decide +kernel
theorem dX4_shiftAll_9 : decode cX4_shiftAll 9 = .ok (.getfield 22, 3) := by decide +kernel
theorem dX4_shiftAll_12 : decode cX4_shiftAll 12 = .ok (.iload_n 1, 1) := by decide +kernel
theorem dX4_shiftAll_13 : decode cX4_shiftAll 13 = .ok (.iaload, 1) := by decide +kernel
theorem dX4_shiftAll_14 : decode cX4_shiftAll 14 = .ok (.ifCond .le 22, 3) := by decide +kernel
theorem dX4_shiftAll_17 : decode cX4_shiftAll 17 = .ok (.aload_n 0, 1) := by decide +kernel
theorem dX4_shiftAll_18 : decode cX4_shiftAll 18 = .ok (.iload_n 1, 1) := by decide +kernel
theorem dX4_shiftAll_19 : decode cX4_shiftAll 19 = .ok (.iconst 0, 1) := by decide +kernel
theorem dX4_shiftAll_20 : decode cX4_shiftAll 20 = .ok (.iload_n 2, 1) := by decide +kernel
theorem dX4_shiftAll_21 : decode cX4_shiftAll 21 = .ok (.aload_n 0, 1) := by decide +kernel
theorem dX4_shiftAll_22 : decode cX4_shiftAll 22 = .ok (.getfield 22, 3) := by decide +kernel
theorem dX4_shiftAll_25 : decode cX4_shiftAll 25 = .ok (.iload_n 2, 1) := by decide +kernel
theorem dX4_shiftAll_26 : decode cX4_shiftAll 26 = .ok (.iaload, 1) := by decide +kernel
theorem dX4_shiftAll_27 : decode cX4_shiftAll 27 = .ok (.invokevirtual 102, 3) := by decide +kernel
theorem dX4_shiftAll_30 : decode cX4_shiftAll 30 = .ok (.iinc 3 1, 3) := by decide +kernel
theorem dX4_shiftAll_33 : decode cX4_shiftAll 33 = .ok (.goto (-31), 3) := by decide +kernel
theorem dX4_shiftAll_36 : decode cX4_shiftAll 36 = .ok (.return_, 1) := by decide +kernel
theorem dX4_addNode_0 : decode cX4_addNode 0 = .ok (.iload_n 1, 1) := by decide +kernel
theorem dX4_addNode_1 : decode cX4_addNode 1 = .ok (.istore_n 3, 1) := by decide +kernel
theorem dX4_addNode_2 : decode cX4_addNode 2 = .ok (.iload_n 2, 1) := by decide +kernel
theorem dX4_addNode_3 : decode cX4_addNode 3 = .ok (.istore 4, 2) := by decide +kernel
theorem dX4_addNode_5 : decode cX4_addNode 5 = .ok (.iconst 0, 1) := by decide +kernel
theorem dX4_addNode_6 : decode cX4_addNode 6 = .ok (.istore 5, 2) := by decide +kernel
theorem dX4_addNode_8 : decode cX4_addNode 8 = .ok (.iload 5, 2) := by decide +kernel
theorem dX4_addNode_10 : decode cX4_addNode 10 = .ok (.bipush 8, 2) := by decide +kernel
theorem dX4_addNode_12 : decode cX4_addNode 12 = .ok (.if_icmp .ge 138, 3) := by decide +kernel
theorem dX4_addNode_15 : decode cX4_addNode 15 = .ok (.aload_n 0, 1) := by decide +kernel
theorem dX4_addNode_16 : decode cX4_addNode 16 = .ok (.iload_n 3, 1) := by decide +kernel
theorem dX4_addNode_17 : decode cX4_addNode 17 = .ok (.iload 4, 2) := by decide +kernel
theorem dX4_addNode_19 : decode cX4_addNode 19 = .ok (.invokevirtual 115, 3) := by decide +kernel
theorem dX4_addNode_22 : decode cX4_addNode 22 = .ok (.aload_n 0, 1) := by decide +kernel
theorem dX4_addNode_23 : decode cX4_addNode 23 = .ok (.getfield 28, 3) := by decide +kernel
theorem dX4_addNode_26 : decode cX4_addNode 26 = .ok (.iload 4, 2) := by decide +kernel
theorem dX4_addNode_28 : decode cX4_addNode 28 = .ok (.iaload, 1) := by decide +kernel
theorem dX4_addNode_29 : decode cX4_addNode 29 = .ok (.istore 6, 2) := by decide +kernel
theorem dX4_addNode_31 : decode cX4_addNode 31 = .ok (.iload 6, 2) := by decide +kernel
theorem dX4_addNode_33 : decode cX4_addNode 33 = .ok (.iconst (-1), 1) := by decide +kernel
theorem dX4_addNode_34 : decode cX4_addNode 34 = .ok (.if_icmp .ne 11, 3) := by decide +kernel
theorem dX4_addNode_37 : decode cX4_addNode 37 = .ok (.aload_n 0, 1) := by decide +kernel
theorem dX4_addNode_38 : decode cX4_addNode 38 = .ok (.iload 4, 2) := by decide +kernel
theorem dX4_addNode_40 : decode cX4_addNode 40 = .ok (.iload_n 3, 1) := by decide +kernel
theorem dX4_addNode_41 : decode cX4_addNode 41 = .ok (.invokevirtual 118, 3) := by decide +kernel
theorem dX4_addNode_44 : decode cX4_addNode 44 = .ok (.ireturn, 1) := by decide +kernel
theorem dX4_addNode_45 : decode cX4_addNode 45 = .ok (.aload_n 0, 1) := by decide +kernel
theorem dX4_addNode_46 : decode cX4_addNode 46 = .ok (.iload 6, 2) := by decide +kernel
theorem dX4_addNode_48 : decode cX4_addNode 48 = .ok (.aload_n 0, 1) := by decide +kernel
theorem dX4_addNode_49 : decode cX4_addNode 49 = .ok (.iload 4, 2) := by decide +kernel
theorem dX4_addNode_51 : decode cX4_addNode 51 = .ok (.iload 6, 2) := by decide +kernel
theorem dX4_addNode_53 : decode cX4_addNode 53 = .ok (.invokevirtual 121, 3) := by decide +kernel
theorem dX4_addNode_56 : decode cX4_addNode 56 = .ok (.iconst 1, 1) := by decide +kernel
theorem dX4_addNode_57 : decode cX4_addNode 57 = .ok (.iadd, 1) := by decide +kernel
theorem dX4_addNode_58 : decode cX4_addNode 58 = .ok (.iload_n 3, 1) := by decide +kernel
theorem dX4_addNode_59 : decode cX4_addNode 59 = .ok (.invokevirtual 124, 3) := by decide +kernel
theorem dX4_addNode_62 : decode cX4_addNode 62 = .ok (.aload_n 0, 1) := by decide +kernel
theorem dX4_addNode_63 : decode cX4_addNode 63 = .ok (.getfield 22, 3) := by decide +kernel
theorem dX4_addNode_66 : decode cX4_addNode 66 = .ok (.iload 6, 2) := by decide +kernel
theorem dX4_addNode_68 : decode cX4_addNode 68 = .ok (.iaload, 1) := by decide +kernel
theorem dX4_addNode_69 : decode cX4_addNode 69 = .ok (.iconst 5, 1) := by decide +kernel
theorem dX4_addNode_70 : decode cX4_addNode 70 = .ok (.if_icmp .gt 5, 3) := by decide +kernel
theorem dX4_addNode_73 : decode cX4_addNode 73 = .ok (.iconst 1, 1) := by decide +kernel
theorem dX4_addNode_74 : decode cX4_addNode 74 = .ok (.ireturn, 1) := by decide +kernel
theorem dX4_addNode_75 : decode cX4_addNode 75 = .ok (.aload_n 0, 1) := by decide +kernel
theorem dX4_addNode_76 : decode cX4_addNode 76 = .ok (.iconst 3, 1) := by decide +kernel
theorem dX4_addNode_77 : decode cX4_addNode 77 = .ok (.invokevirtual 49, 3) := by decide +kernel
theorem dX4_addNode_80 : decode cX4_addNode 80 = .ok (.istore 7, 2) := by decide +kernel
theorem dX4_addNode_82 : decode cX4_addNode 82 = .ok (.iload 7, 2) := by decide +kernel
theorem dX4_addNode_84 : decode cX4_addNode 84 = .ok (.iconst (-1), 1) := by decide +kernel
theorem dX4_addNode_85 : decode cX4_addNode 85 = .ok (.if_icmp .ne 5, 3) := by decide +kernel
theorem dX4_addNode_88 : decode cX4_addNode 88 = .ok (.iconst 0, 1) := by decide +kernel
theorem dX4_addNode_89 : decode cX4_addNode 89 = .ok (.ireturn, 1) := by decide +kernel
theorem dX4_addNode_90 : decode cX4_addNode 90 = .ok (.aload_n 0, 1) := by decide +kernel
theorem dX4_addNode_91 : decode cX4_addNode 91 = .ok (.getfield 19, 3) := by decide +kernel
theorem dX4_addNode_94 : decode cX4_addNode 94 = .ok (.iload 7, 2) := by decide +kernel
theorem dX4_addNode_96 : decode cX4_addNode 96 = .ok (.aload_n 0, 1) := by decide +kernel
theorem dX4_addNode_97 : decode cX4_addNode 97 = .ok (.getfield 19, 3) := by decide +kernel
theorem dX4_addNode_100 : decode cX4_addNode 100 = .ok (.iload 6, 2) := by decide +kernel
theorem dX4_addNode_102 : decode cX4_addNode 102 = .ok (.iaload, 1) := by decide +kernel
theorem dX4_addNode_103 : decode cX4_addNode 103 = .ok (.iastore, 1) := by decide +kernel
theorem dX4_addNode_104 : decode cX4_addNode 104 = .ok (.iconst 0, 1) := by decide +kernel
theorem dX4_addNode_105 : decode cX4_addNode 105 = .ok (.istore 8, 2) := by decide +kernel
theorem dX4_addNode_107 : decode cX4_addNode 107 = .ok (.iload 8, 2) := by decide +kernel
theorem dX4_addNode_109 : decode cX4_addNode 109 = .ok (.iconst 3, 1) := by decide +kernel
theorem dX4_addNode_110 : decode cX4_addNode 110 = .ok (.if_icmp .ge 27, 3) := by decide +kernel
theorem dX4_addNode_113 : decode cX4_addNode 113 = .ok (.aload_n 0, 1) := by decide +kernel
theorem dX4_addNode_114 : decode cX4_addNode 114 = .ok (.iload 6, 2) := by decide +kernel
theorem dX4_addNode_116 : decode cX4_addNode 116 = .ok (.aload_n 0, 1) := by decide +kernel
theorem dX4_addNode_117 : decode cX4_addNode 117 = .ok (.getfield 22, 3) := by decide +kernel
theorem dX4_addNode_120 : decode cX4_addNode 120 = .ok (.iload 6, 2) := by decide +kernel
theorem dX4_addNode_122 : decode cX4_addNode 122 = .ok (.iaload, 1) := by decide +kernel
theorem dX4_addNode_123 : decode cX4_addNode 123 = .ok (.iconst 1, 1) := by decide +kernel
theorem dX4_addNode_124 : decode cX4_addNode 124 = .ok (.isub, 1) := by decide +kernel
theorem dX4_addNode_125 : decode cX4_addNode 125 = .ok (.iload 7, 2) := by decide +kernel
theorem dX4_addNode_127 : decode cX4_addNode 127 = .ok (.iconst 0, 1) := by decide +kernel
theorem dX4_addNode_128 : decode cX4_addNode 128 = .ok (.invokevirtual 128, 3) := by decide +kernel
theorem dX4_addNode_131 : decode cX4_addNode 131 = .ok (.iinc 8 1, 3) := by decide +kernel
theorem dX4_addNode_134 : decode cX4_addNode 134 = .ok (.goto (-27), 3) := by decide +kernel
theorem dX4_addNode_137 : decode cX4_addNode 137 = .ok (.iload 7, 2) := by decide +kernel
theorem dX4_addNode_139 : decode cX4_addNode 139 = .ok (.istore_n 3, 1) := by decide +kernel
theorem dX4_addNode_140 : decode cX4_addNode 140 = .ok (.iload 6, 2) := by decide +kernel
theorem dX4_addNode_142 : decode cX4_addNode 142 = .ok (.istore 4, 2) := by decide +kernel
theorem dX4_addNode_144 : decode cX4_addNode 144 = .ok (.iinc 5 1, 3) := by decide +kernel
theorem dX4_addNode_147 : decode cX4_addNode 147 = .ok (.goto (-139), 3) := by decide +kernel
theorem dX4_addNode_150 : decode cX4_addNode 150 = .ok (.iconst 0, 1) := by decide +kernel
theorem dX4_addNode_151 : decode cX4_addNode 151 = .ok (.ireturn, 1) := by decide +kernel
theorem dX4_addRoot_0 : decode cX4_addRoot 0 = .ok (.aload_n 0, 1) := by decide +kernel
theorem dX4_addRoot_1 : decode cX4_addRoot 1 = .ok (.iconst 3, 1) := by decide +kernel
theorem dX4_addRoot_2 : decode cX4_addRoot 2 = .ok (.invokevirtual 49, 3) := by decide +kernel
theorem dX4_addRoot_5 : decode cX4_addRoot 5 = .ok (.istore_n 3, 1) := by decide +kernel
theorem dX4_addRoot_6 : decode cX4_addRoot 6 = .ok (.iload_n 3, 1) := by decide +kernel
theorem dX4_addRoot_7 : decode cX4_addRoot 7 = .ok (.iconst (-1), 1) := by decide +kernel
theorem dX4_addRoot_8 : decode cX4_addRoot 8 = .ok (.if_icmp .ne 5, 3) := by decide +kernel
theorem dX4_addRoot_11 : decode cX4_addRoot 11 = .ok (.iconst 0, 1) := by decide +kernel
theorem dX4_addRoot_12 : decode cX4_addRoot 12 = .ok (.ireturn, 1) := by decide +kernel
theorem dX4_addRoot_13 : decode cX4_addRoot 13 = .ok (.aload_n 0, 1) := by decide +kernel
theorem dX4_addRoot_14 : decode cX4_addRoot 14 = .ok (.getfield 19, 3) := by decide +kernel
theorem dX4_addRoot_17 : decode cX4_addRoot 17 = .ok (.iload_n 3, 1) := by decide +kernel
theorem dX4_addRoot_18 : decode cX4_addRoot 18 = .ok (.aload_n 0, 1) := by decide +kernel
theorem dX4_addRoot_19 : decode cX4_addRoot 19 = .ok (.getfield 19, 3) := by decide +kernel
theorem dX4_addRoot_22 : decode cX4_addRoot 22 = .ok (.iload_n 1, 1) := by decide +kernel
theorem dX4_addRoot_23 : decode cX4_addRoot 23 = .ok (.iaload, 1) := by decide +kernel
theorem dX4_addRoot_24 : decode cX4_addRoot 24 = .ok (.iconst 1, 1) := by decide +kernel
theorem dX4_addRoot_25 : decode cX4_addRoot 25 = .ok (.iadd, 1) := by decide +kernel
theorem dX4_addRoot_26 : decode cX4_addRoot 26 = .ok (.iastore, 1) := by decide +kernel
theorem dX4_addRoot_27 : decode cX4_addRoot 27 = .ok (.aload_n 0, 1) := by decide +kernel
theorem dX4_addRoot_28 : decode cX4_addRoot 28 = .ok (.iload_n 3, 1) := by decide +kernel
theorem dX4_addRoot_29 : decode cX4_addRoot 29 = .ok (.iconst 0, 1) := by decide +kernel
theorem dX4_addRoot_30 : decode cX4_addRoot 30 = .ok (.iload_n 1, 1) := by decide +kernel
theorem dX4_addRoot_31 : decode cX4_addRoot 31 = .ok (.invokevirtual 124, 3) := by decide +kernel
theorem dX4_addRoot_34 : decode cX4_addRoot 34 = .ok (.aload_n 0, 1) := by decide +kernel
theorem dX4_addRoot_35 : decode cX4_addRoot 35 = .ok (.iload_n 3, 1) := by decide +kernel
theorem dX4_addRoot_36 : decode cX4_addRoot 36 = .ok (.iconst 1, 1) := by decide +kernel
theorem dX4_addRoot_37 : decode cX4_addRoot 37 = .ok (.iload_n 2, 1) := by decide +kernel
theorem dX4_addRoot_38 : decode cX4_addRoot 38 = .ok (.invokevirtual 124, 3) := by decide +kernel
theorem dX4_addRoot_41 : decode cX4_addRoot 41 = .ok (.aload_n 0, 1) := by decide +kernel
theorem dX4_addRoot_42 : decode cX4_addRoot 42 = .ok (.iload_n 3, 1) := by decide +kernel
theorem dX4_addRoot_43 : decode cX4_addRoot 43 = .ok (.putfield 53, 3) := by decide +kernel
theorem dX4_addRoot_46 : decode cX4_addRoot 46 = .ok (.iconst 1, 1) := by decide +kernel
theorem dX4_addRoot_47 : decode cX4_addRoot 47 = .ok (.ireturn, 1) := by decide +kernel
theorem dX4_dropNode_0 : decode cX4_dropNode 0 = .ok (.iload_n 1, 1) := by decide +kernel
theorem dX4_dropNode_1 : decode cX4_dropNode 1 = .ok (.istore_n 2, 1) := by decide +kernel
theorem dX4_dropNode_2 : decode cX4_dropNode 2 = .ok (.iconst 0, 1) := by decide +kernel
theorem dX4_dropNode_3 : decode cX4_dropNode 3 = .ok (.istore_n 3, 1) := by decide +kernel
theorem dX4_dropNode_4 : decode cX4_dropNode 4 = .ok (.iload_n 3, 1) := by decide +kernel
theorem dX4_dropNode_5 : decode cX4_dropNode 5 = .ok (.bipush 8, 2) := by decide +kernel
theorem dX4_dropNode_7 : decode cX4_dropNode 7 = .ok (.if_icmp .ge 240, 3) := by decide +kernel
theorem dX4_dropNode_10 : decode cX4_dropNode 10 = .ok (.aload_n 0, 1) := by decide +kernel
theorem dX4_dropNode_11 : decode cX4_dropNode 11 = .ok (.getfield 28, 3) := by decide +kernel
theorem dX4_dropNode_14 : decode cX4_dropNode 14 = .ok (.iload_n 2, 1) := by decide +kernel
theorem dX4_dropNode_15 : decode cX4_dropNode 15 = .ok (.iaload, 1) := by decide +kernel
theorem dX4_dropNode_16 : decode cX4_dropNode 16 = .ok (.istore 4, 2) := by decide +kernel
theorem dX4_dropNode_18 : decode cX4_dropNode 18 = .ok (.aload_n 0, 1) := by decide +kernel
theorem dX4_dropNode_19 : decode cX4_dropNode 19 = .ok (.iload_n 2, 1) := by decide +kernel
theorem dX4_dropNode_20 : decode cX4_dropNode 20 = .ok (.invokevirtual 131, 3) := by decide +kernel
theorem dX4_dropNode_23 : decode cX4_dropNode 23 = .ok (.aload_n 0, 1) := by decide +kernel
theorem dX4_dropNode_24 : decode cX4_dropNode 24 = .ok (.getfield 15, 3) := by decide +kernel
theorem dX4_dropNode_27 : decode cX4_dropNode 27 = .ok (.iload_n 2, 1) := by decide +kernel
theorem dX4_dropNode_28 : decode cX4_dropNode 28 = .ok (.iconst 0, 1) := by decide +kernel
theorem dX4_dropNode_29 : decode cX4_dropNode 29 = .ok (.iastore, 1) := by decide +kernel
theorem dX4_dropNode_30 : decode cX4_dropNode 30 = .ok (.iload 4, 2) := by decide +kernel
theorem dX4_dropNode_32 : decode cX4_dropNode 32 = .ok (.iconst (-1), 1) := by decide +kernel
theorem dX4_dropNode_33 : decode cX4_dropNode 33 = .ok (.if_icmp .ne 4, 3) := by decide +kernel
theorem dX4_dropNode_36 : decode cX4_dropNode 36 = .ok (.return_, 1) := by decide +kernel
theorem dX4_dropNode_37 : decode cX4_dropNode 37 = .ok (.aload_n 0, 1) := by decide +kernel
theorem dX4_dropNode_38 : decode cX4_dropNode 38 = .ok (.iload 4, 2) := by decide +kernel
theorem dX4_dropNode_40 : decode cX4_dropNode 40 = .ok (.aload_n 0, 1) := by decide +kernel
theorem dX4_dropNode_41 : decode cX4_dropNode 41 = .ok (.iload_n 2, 1) := by decide +kernel
theorem dX4_dropNode_42 : decode cX4_dropNode 42 = .ok (.iload 4, 2) := by decide +kernel
theorem dX4_dropNode_44 : decode cX4_dropNode 44 = .ok (.invokevirtual 121, 3) := by decide +kernel
theorem dX4_dropNode_47 : decode cX4_dropNode 47 = .ok (.invokevirtual 134, 3) := by decide +kernel
theorem dX4_dropNode_50 : decode cX4_dropNode 50 = .ok (.aload_n 0, 1) := by decide +kernel
theorem dX4_dropNode_51 : decode cX4_dropNode 51 = .ok (.getfield 22, 3) := by decide +kernel
theorem dX4_dropNode_54 : decode cX4_dropNode 54 = .ok (.iload 4, 2) := by decide +kernel
theorem dX4_dropNode_56 : decode cX4_dropNode 56 = .ok (.iaload, 1) := by decide +kernel
theorem dX4_dropNode_57 : decode cX4_dropNode 57 = .ok (.iconst 1, 1) := by decide +kernel
theorem dX4_dropNode_58 : decode cX4_dropNode 58 = .ok (.if_icmp .eq 4, 3) := by decide +kernel
theorem dX4_dropNode_61 : decode cX4_dropNode 61 = .ok (.return_, 1) := by decide +kernel
theorem dX4_dropNode_62 : decode cX4_dropNode 62 = .ok (.aload_n 0, 1) := by decide +kernel
theorem dX4_dropNode_63 : decode cX4_dropNode 63 = .ok (.getfield 28, 3) := by decide +kernel
theorem dX4_dropNode_66 : decode cX4_dropNode 66 = .ok (.iload 4, 2) := by decide +kernel
theorem dX4_dropNode_68 : decode cX4_dropNode 68 = .ok (.iaload, 1) := by decide +kernel
theorem dX4_dropNode_69 : decode cX4_dropNode 69 = .ok (.iconst (-1), 1) := by decide +kernel
theorem dX4_dropNode_70 : decode cX4_dropNode 70 = .ok (.if_icmp .ne 36, 3) := by decide +kernel
theorem dX4_dropNode_73 : decode cX4_dropNode 73 = .ok (.aload_n 0, 1) := by decide +kernel
theorem dX4_dropNode_74 : decode cX4_dropNode 74 = .ok (.aload_n 0, 1) := by decide +kernel
theorem dX4_dropNode_75 : decode cX4_dropNode 75 = .ok (.getfield 37, 3) := by decide +kernel
theorem dX4_dropNode_78 : decode cX4_dropNode 78 = .ok (.iload 4, 2) := by decide +kernel
theorem dX4_dropNode_80 : decode cX4_dropNode 80 = .ok (.bipush 6, 2) := by decide +kernel
theorem dX4_dropNode_82 : decode cX4_dropNode 82 = .ok (.imul, 1) := by decide +kernel
theorem dX4_dropNode_83 : decode cX4_dropNode 83 = .ok (.iaload, 1) := by decide +kernel
theorem dX4_dropNode_84 : decode cX4_dropNode 84 = .ok (.putfield 53, 3) := by decide +kernel
theorem dX4_dropNode_87 : decode cX4_dropNode 87 = .ok (.aload_n 0, 1) := by decide +kernel
theorem dX4_dropNode_88 : decode cX4_dropNode 88 = .ok (.getfield 28, 3) := by decide +kernel
theorem dX4_dropNode_91 : decode cX4_dropNode 91 = .ok (.aload_n 0, 1) := by decide +kernel
theorem dX4_dropNode_92 : decode cX4_dropNode 92 = .ok (.getfield 53, 3) := by decide +kernel
theorem dX4_dropNode_95 : decode cX4_dropNode 95 = .ok (.iconst (-1), 1) := by decide +kernel
theorem dX4_dropNode_96 : decode cX4_dropNode 96 = .ok (.iastore, 1) := by decide +kernel
theorem dX4_dropNode_97 : decode cX4_dropNode 97 = .ok (.aload_n 0, 1) := by decide +kernel
theorem dX4_dropNode_98 : decode cX4_dropNode 98 = .ok (.getfield 15, 3) := by decide +kernel
theorem dX4_dropNode_101 : decode cX4_dropNode 101 = .ok (.iload 4, 2) := by decide +kernel
theorem dX4_dropNode_103 : decode cX4_dropNode 103 = .ok (.iconst 0, 1) := by decide +kernel
theorem dX4_dropNode_104 : decode cX4_dropNode 104 = .ok (.iastore, 1) := by decide +kernel
theorem dX4_dropNode_105 : decode cX4_dropNode 105 = .ok (.return_, 1) := by decide +kernel
theorem dX4_dropNode_106 : decode cX4_dropNode 106 = .ok (.aload_n 0, 1) := by decide +kernel
theorem dX4_dropNode_107 : decode cX4_dropNode 107 = .ok (.getfield 31, 3) := by decide +kernel
theorem dX4_dropNode_110 : decode cX4_dropNode 110 = .ok (.iload 4, 2) := by decide +kernel
theorem dX4_dropNode_112 : decode cX4_dropNode 112 = .ok (.iaload, 1) := by decide +kernel
theorem dX4_dropNode_113 : decode cX4_dropNode 113 = .ok (.istore 5, 2) := by decide +kernel
theorem dX4_dropNode_115 : decode cX4_dropNode 115 = .ok (.aload_n 0, 1) := by decide +kernel
theorem dX4_dropNode_116 : decode cX4_dropNode 116 = .ok (.getfield 34, 3) := by decide +kernel
theorem dX4_dropNode_119 : decode cX4_dropNode 119 = .ok (.iload 4, 2) := by decide +kernel
theorem dX4_dropNode_121 : decode cX4_dropNode 121 = .ok (.iaload, 1) := by decide +kernel
theorem dX4_dropNode_122 : decode cX4_dropNode 122 = .ok (.istore 6, 2) := by decide +kernel
theorem dX4_dropNode_124 : decode cX4_dropNode 124 = .ok (.iload 5, 2) := by decide +kernel
theorem dX4_dropNode_126 : decode cX4_dropNode 126 = .ok (.iconst (-1), 1) := by decide +kernel
theorem dX4_dropNode_127 : decode cX4_dropNode 127 = .ok (.if_icmp .eq 33, 3) := by decide +kernel
theorem dX4_dropNode_130 : decode cX4_dropNode 130 = .ok (.aload_n 0, 1) := by decide +kernel
theorem dX4_dropNode_131 : decode cX4_dropNode 131 = .ok (.getfield 22, 3) := by decide +kernel
theorem dX4_dropNode_134 : decode cX4_dropNode 134 = .ok (.iload 5, 2) := by decide +kernel
theorem dX4_dropNode_136 : decode cX4_dropNode 136 = .ok (.iaload, 1) := by decide +kernel
theorem dX4_dropNode_137 : decode cX4_dropNode 137 = .ok (.iconst 5, 1) := by decide +kernel
theorem dX4_dropNode_138 : decode cX4_dropNode 138 = .ok (.if_icmp .ge 22, 3) := by decide +kernel
theorem dX4_dropNode_141 : decode cX4_dropNode 141 = .ok (.aload_n 0, 1) := by decide +kernel
theorem dX4_dropNode_142 : decode cX4_dropNode 142 = .ok (.iload 4, 2) := by decide +kernel
theorem dX4_dropNode_144 : decode cX4_dropNode 144 = .ok (.iconst 0, 1) := by decide +kernel
theorem dX4_dropNode_145 : decode cX4_dropNode 145 = .ok (.iload 5, 2) := by decide +kernel
theorem dX4_dropNode_147 : decode cX4_dropNode 147 = .ok (.aload_n 0, 1) := by decide +kernel
theorem dX4_dropNode_148 : decode cX4_dropNode 148 = .ok (.getfield 22, 3) := by decide +kernel
theorem dX4_dropNode_151 : decode cX4_dropNode 151 = .ok (.iload 5, 2) := by decide +kernel
theorem dX4_dropNode_153 : decode cX4_dropNode 153 = .ok (.iaload, 1) := by decide +kernel
theorem dX4_dropNode_154 : decode cX4_dropNode 154 = .ok (.invokevirtual 128, 3) := by decide +kernel
theorem dX4_dropNode_157 : decode cX4_dropNode 157 = .ok (.goto 81, 3) := by decide +kernel
theorem dX4_dropNode_160 : decode cX4_dropNode 160 = .ok (.iload 6, 2) := by decide +kernel
theorem dX4_dropNode_162 : decode cX4_dropNode 162 = .ok (.iconst (-1), 1) := by decide +kernel
theorem dX4_dropNode_163 : decode cX4_dropNode 163 = .ok (.if_icmp .eq 27, 3) := by decide +kernel
theorem dX4_dropNode_166 : decode cX4_dropNode 166 = .ok (.aload_n 0, 1) := by decide +kernel
theorem dX4_dropNode_167 : decode cX4_dropNode 167 = .ok (.getfield 22, 3) := by decide +kernel
theorem dX4_dropNode_170 : decode cX4_dropNode 170 = .ok (.iload 6, 2) := by decide +kernel
theorem dX4_dropNode_172 : decode cX4_dropNode 172 = .ok (.iaload, 1) := by decide +kernel
theorem dX4_dropNode_173 : decode cX4_dropNode 173 = .ok (.iconst 5, 1) := by decide +kernel
theorem dX4_dropNode_174 : decode cX4_dropNode 174 = .ok (.if_icmp .ge 16, 3) := by decide +kernel
theorem dX4_dropNode_177 : decode cX4_dropNode 177 = .ok (.aload_n 0, 1) := by decide +kernel
theorem dX4_dropNode_178 : decode cX4_dropNode 178 = .ok (.iload 4, 2) := by decide +kernel
theorem dX4_dropNode_180 : decode cX4_dropNode 180 = .ok (.iconst 0, 1) := by decide +kernel
theorem dX4_dropNode_181 : decode cX4_dropNode 181 = .ok (.iload 6, 2) := by decide +kernel
theorem dX4_dropNode_183 : decode cX4_dropNode 183 = .ok (.iconst 0, 1) := by decide +kernel
theorem dX4_dropNode_184 : decode cX4_dropNode 184 = .ok (.invokevirtual 128, 3) := by decide +kernel
theorem dX4_dropNode_187 : decode cX4_dropNode 187 = .ok (.goto 51, 3) := by decide +kernel
theorem dX4_dropNode_190 : decode cX4_dropNode 190 = .ok (.iload 5, 2) := by decide +kernel
theorem dX4_dropNode_192 : decode cX4_dropNode 192 = .ok (.iconst (-1), 1) := by decide +kernel
theorem dX4_dropNode_193 : decode cX4_dropNode 193 = .ok (.if_icmp .eq 22, 3) := by decide +kernel
theorem dX4_dropNode_196 : decode cX4_dropNode 196 = .ok (.aload_n 0, 1) := by decide +kernel
theorem dX4_dropNode_197 : decode cX4_dropNode 197 = .ok (.iload 5, 2) := by decide +kernel
theorem dX4_dropNode_199 : decode cX4_dropNode 199 = .ok (.aload_n 0, 1) := by decide +kernel
theorem dX4_dropNode_200 : decode cX4_dropNode 200 = .ok (.getfield 22, 3) := by decide +kernel
theorem dX4_dropNode_203 : decode cX4_dropNode 203 = .ok (.iload 5, 2) := by decide +kernel
theorem dX4_dropNode_205 : decode cX4_dropNode 205 = .ok (.iaload, 1) := by decide +kernel
theorem dX4_dropNode_206 : decode cX4_dropNode 206 = .ok (.iconst 1, 1) := by decide +kernel
theorem dX4_dropNode_207 : decode cX4_dropNode 207 = .ok (.isub, 1) := by decide +kernel
theorem dX4_dropNode_208 : decode cX4_dropNode 208 = .ok (.iload 4, 2) := by decide +kernel
theorem dX4_dropNode_210 : decode cX4_dropNode 210 = .ok (.iconst 0, 1) := by decide +kernel
theorem dX4_dropNode_211 : decode cX4_dropNode 211 = .ok (.invokevirtual 128, 3) := by decide +kernel
theorem dX4_dropNode_214 : decode cX4_dropNode 214 = .ok (.return_, 1) := by decide +kernel
theorem dX4_dropNode_215 : decode cX4_dropNode 215 = .ok (.iload 6, 2) := by decide +kernel
theorem dX4_dropNode_217 : decode cX4_dropNode 217 = .ok (.iconst (-1), 1) := by decide +kernel
theorem dX4_dropNode_218 : decode cX4_dropNode 218 = .ok (.if_icmp .eq 19, 3) := by decide +kernel
theorem dX4_dropNode_221 : decode cX4_dropNode 221 = .ok (.aload_n 0, 1) := by decide +kernel
theorem dX4_dropNode_222 : decode cX4_dropNode 222 = .ok (.iload 6, 2) := by decide +kernel
theorem dX4_dropNode_224 : decode cX4_dropNode 224 = .ok (.iconst 0, 1) := by decide +kernel
theorem dX4_dropNode_225 : decode cX4_dropNode 225 = .ok (.iload 4, 2) := by decide +kernel
theorem dX4_dropNode_227 : decode cX4_dropNode 227 = .ok (.aload_n 0, 1) := by decide +kernel
theorem dX4_dropNode_228 : decode cX4_dropNode 228 = .ok (.getfield 22, 3) := by decide +kernel
theorem dX4_dropNode_231 : decode cX4_dropNode 231 = .ok (.iload 4, 2) := by decide +kernel
theorem dX4_dropNode_233 : decode cX4_dropNode 233 = .ok (.iaload, 1) := by decide +kernel
theorem dX4_dropNode_234 : decode cX4_dropNode 234 = .ok (.invokevirtual 128, 3) := by decide +kernel
theorem dX4_dropNode_237 : decode cX4_dropNode 237 = .ok (.return_, 1) := by decide +kernel
theorem dX4_dropNode_238 : decode cX4_dropNode 238 = .ok (.iload 4, 2) := by decide +kernel
theorem dX4_dropNode_240 : decode cX4_dropNode 240 = .ok (.istore_n 2, 1) := by decide +kernel
theorem dX4_dropNode_241 : decode cX4_dropNode 241 = .ok (.iinc 3 1, 3) := by decide +kernel
theorem dX4_dropNode_244 : decode cX4_dropNode 244 = .ok (.goto (-240), 3) := by decide +kernel
theorem dX4_dropNode_247 : decode cX4_dropNode 247 = .ok (.return_, 1) := by decide +kernel
theorem dX4_joinRow_0 : decode cX4_joinRow 0 = .ok (.aload_n 0, 1) := by decide +kernel
theorem dX4_joinRow_1 : decode cX4_joinRow 1 = .ok (.getfield 34, 3) := by decide +kernel
theorem dX4_joinRow_4 : decode cX4_joinRow 4 = .ok (.iload_n 2, 1) := by decide +kernel
theorem dX4_joinRow_5 : decode cX4_joinRow 5 = .ok (.iaload, 1) := by decide +kernel
theorem dX4_joinRow_6 : decode cX4_joinRow 6 = .ok (.istore_n 3, 1) := by decide +kernel
theorem dX4_joinRow_7 : decode cX4_joinRow 7 = .ok (.aload_n 0, 1) := by decide +kernel
theorem dX4_joinRow_8 : decode cX4_joinRow 8 = .ok (.getfield 31, 3) := by decide +kernel
theorem dX4_joinRow_11 : decode cX4_joinRow 11 = .ok (.iload_n 1, 1) := by decide +kernel
theorem dX4_joinRow_12 : decode cX4_joinRow 12 = .ok (.iload_n 2, 1) := by decide +kernel
theorem dX4_joinRow_13 : decode cX4_joinRow 13 = .ok (.iastore, 1) := by decide +kernel
theorem dX4_joinRow_14 : decode cX4_joinRow 14 = .ok (.aload_n 0, 1) := by decide +kernel
theorem dX4_joinRow_15 : decode cX4_joinRow 15 = .ok (.getfield 34, 3) := by decide +kernel
theorem dX4_joinRow_18 : decode cX4_joinRow 18 = .ok (.iload_n 1, 1) := by decide +kernel
theorem dX4_joinRow_19 : decode cX4_joinRow 19 = .ok (.iload_n 3, 1) := by decide +kernel
theorem dX4_joinRow_20 : decode cX4_joinRow 20 = .ok (.iastore, 1) := by decide +kernel
theorem dX4_joinRow_21 : decode cX4_joinRow 21 = .ok (.aload_n 0, 1) := by decide +kernel
theorem dX4_joinRow_22 : decode cX4_joinRow 22 = .ok (.getfield 34, 3) := by decide +kernel
theorem dX4_joinRow_25 : decode cX4_joinRow 25 = .ok (.iload_n 2, 1) := by decide +kernel
theorem dX4_joinRow_26 : decode cX4_joinRow 26 = .ok (.iload_n 1, 1) := by decide +kernel
theorem dX4_joinRow_27 : decode cX4_joinRow 27 = .ok (.iastore, 1) := by decide +kernel
theorem dX4_joinRow_28 : decode cX4_joinRow 28 = .ok (.iload_n 3, 1) := by decide +kernel
theorem dX4_joinRow_29 : decode cX4_joinRow 29 = .ok (.iconst (-1), 1) := by decide +kernel
theorem dX4_joinRow_30 : decode cX4_joinRow 30 = .ok (.if_icmp .eq 10, 3) := by decide +kernel
theorem dX4_joinRow_33 : decode cX4_joinRow 33 = .ok (.aload_n 0, 1) := by decide +kernel
theorem dX4_joinRow_34 : decode cX4_joinRow 34 = .ok (.getfield 31, 3) := by decide +kernel
theorem dX4_joinRow_37 : decode cX4_joinRow 37 = .ok (.iload_n 3, 1) := by decide +kernel
theorem dX4_joinRow_38 : decode cX4_joinRow 38 = .ok (.iload_n 1, 1) := by decide +kernel
theorem dX4_joinRow_39 : decode cX4_joinRow 39 = .ok (.iastore, 1) := by decide +kernel
theorem dX4_joinRow_40 : decode cX4_joinRow 40 = .ok (.return_, 1) := by decide +kernel
theorem dX4_leaveRow_0 : decode cX4_leaveRow 0 = .ok (.aload_n 0, 1) := by decide +kernel
theorem dX4_leaveRow_1 : decode cX4_leaveRow 1 = .ok (.getfield 31, 3) := by decide +kernel
theorem dX4_leaveRow_4 : decode cX4_leaveRow 4 = .ok (.iload_n 1, 1) := by decide +kernel
theorem dX4_leaveRow_5 : decode cX4_leaveRow 5 = .ok (.iaload, 1) := by decide +kernel
theorem dX4_leaveRow_6 : decode cX4_leaveRow 6 = .ok (.istore_n 2, 1) := by decide +kernel
theorem dX4_leaveRow_7 : decode cX4_leaveRow 7 = .ok (.aload_n 0, 1) := by decide +kernel
theorem dX4_leaveRow_8 : decode cX4_leaveRow 8 = .ok (.getfield 34, 3) := by decide +kernel
theorem dX4_leaveRow_11 : decode cX4_leaveRow 11 = .ok (.iload_n 1, 1) := by decide +kernel
theorem dX4_leaveRow_12 : decode cX4_leaveRow 12 = .ok (.iaload, 1) := by decide +kernel
theorem dX4_leaveRow_13 : decode cX4_leaveRow 13 = .ok (.istore_n 3, 1) := by decide +kernel
theorem dX4_leaveRow_14 : decode cX4_leaveRow 14 = .ok (.iload_n 2, 1) := by decide +kernel
theorem dX4_leaveRow_15 : decode cX4_leaveRow 15 = .ok (.iconst (-1), 1) := by decide +kernel
theorem dX4_leaveRow_16 : decode cX4_leaveRow 16 = .ok (.if_icmp .eq 10, 3) := by decide +kernel
theorem dX4_leaveRow_19 : decode cX4_leaveRow 19 = .ok (.aload_n 0, 1) := by decide +kernel
theorem dX4_leaveRow_20 : decode cX4_leaveRow 20 = .ok (.getfield 34, 3) := by decide +kernel
theorem dX4_leaveRow_23 : decode cX4_leaveRow 23 = .ok (.iload_n 2, 1) := by decide +kernel
theorem dX4_leaveRow_24 : decode cX4_leaveRow 24 = .ok (.iload_n 3, 1) := by decide +kernel
theorem dX4_leaveRow_25 : decode cX4_leaveRow 25 = .ok (.iastore, 1) := by decide +kernel
theorem dX4_leaveRow_26 : decode cX4_leaveRow 26 = .ok (.iload_n 3, 1) := by decide +kernel
theorem dX4_leaveRow_27 : decode cX4_leaveRow 27 = .ok (.iconst (-1), 1) := by decide +kernel
theorem dX4_leaveRow_28 : decode cX4_leaveRow 28 = .ok (.if_icmp .eq 10, 3) := by decide +kernel
theorem dX4_leaveRow_31 : decode cX4_leaveRow 31 = .ok (.aload_n 0, 1) := by decide +kernel
theorem dX4_leaveRow_32 : decode cX4_leaveRow 32 = .ok (.getfield 31, 3) := by decide +kernel
theorem dX4_leaveRow_35 : decode cX4_leaveRow 35 = .ok (.iload_n 3, 1) := by decide +kernel
theorem dX4_leaveRow_36 : decode cX4_leaveRow 36 = .ok (.iload_n 2, 1) := by decide +kernel
theorem dX4_leaveRow_37 : decode cX4_leaveRow 37 = .ok (.iastore, 1) := by decide +kernel
theorem dX4_leaveRow_38 : decode cX4_leaveRow 38 = .ok (.return_, 1) := by decide +kernel
theorem dX4_placeOf_0 : decode cX4_placeOf 0 = .ok (.iconst 0, 1) := by decide +kernel
theorem dX4_placeOf_1 : decode cX4_placeOf 1 = .ok (.istore_n 3, 1) := by decide +kernel
theorem dX4_placeOf_2 : decode cX4_placeOf 2 = .ok (.iload_n 3, 1) := by decide +kernel
theorem dX4_placeOf_3 : decode cX4_placeOf 3 = .ok (.aload_n 0, 1) := by decide +kernel
theorem dX4_placeOf_4 : decode cX4_placeOf 4 = .ok (.getfield 22, 3) := by decide +kernel
theorem dX4_placeOf_7 : decode cX4_placeOf 7 = .ok (.iload_n 2, 1) := by decide +kernel
theorem dX4_placeOf_8 : decode cX4_placeOf 8 = .ok (.iaload, 1) := by decide +kernel
theorem dX4_placeOf_9 : decode cX4_placeOf 9 = .ok (.if_icmp .ge 24, 3) := by decide +kernel
theorem dX4_placeOf_12 : decode cX4_placeOf 12 = .ok (.aload_n 0, 1) := by decide +kernel
theorem dX4_placeOf_13 : decode cX4_placeOf 13 = .ok (.getfield 37, 3) := by decide +kernel
theorem dX4_placeOf_16 : decode cX4_placeOf 16 = .ok (.iload_n 2, 1) := by decide +kernel
theorem dX4_placeOf_17 : decode cX4_placeOf 17 = .ok (.bipush 6, 2) := by decide +kernel
theorem dX4_placeOf_19 : decode cX4_placeOf 19 = .ok (.imul, 1) := by decide +kernel
theorem dX4_placeOf_20 : decode cX4_placeOf 20 = .ok (.iload_n 3, 1) := by decide +kernel
theorem dX4_placeOf_21 : decode cX4_placeOf 21 = .ok (.iadd, 1) := by decide +kernel
theorem dX4_placeOf_22 : decode cX4_placeOf 22 = .ok (.iaload, 1) := by decide +kernel
theorem dX4_placeOf_23 : decode cX4_placeOf 23 = .ok (.iload_n 1, 1) := by decide +kernel
theorem dX4_placeOf_24 : decode cX4_placeOf 24 = .ok (.if_icmp .eq 9, 3) := by decide +kernel
theorem dX4_placeOf_27 : decode cX4_placeOf 27 = .ok (.iinc 3 1, 3) := by decide +kernel
theorem dX4_placeOf_30 : decode cX4_placeOf 30 = .ok (.goto (-28), 3) := by decide +kernel
theorem dX4_placeOf_33 : decode cX4_placeOf 33 = .ok (.iload_n 3, 1) := by decide +kernel
theorem dX4_placeOf_34 : decode cX4_placeOf 34 = .ok (.ireturn, 1) := by decide +kernel
theorem dX4_openChild_0 : decode cX4_openChild 0 = .ok (.aload_n 0, 1) := by decide +kernel
theorem dX4_openChild_1 : decode cX4_openChild 1 = .ok (.getfield 22, 3) := by decide +kernel
theorem dX4_openChild_4 : decode cX4_openChild 4 = .ok (.iload_n 1, 1) := by decide +kernel
theorem dX4_openChild_5 : decode cX4_openChild 5 = .ok (.iaload, 1) := by decide +kernel
theorem dX4_openChild_6 : decode cX4_openChild 6 = .ok (.iload_n 2, 1) := by decide +kernel
theorem dX4_openChild_7 : decode cX4_openChild 7 = .ok (.isub, 1) := by decide +kernel
theorem dX4_openChild_8 : decode cX4_openChild 8 = .ok (.istore 4, 2) := by decide +kernel
theorem dX4_openChild_10 : decode cX4_openChild 10 = .ok (.iload_n 2, 1) := by decide +kernel
theorem dX4_openChild_11 : decode cX4_openChild 11 = .ok (.ifCond .lt 19, 3) := by decide +kernel
theorem dX4_openChild_14 : decode cX4_openChild 14 = .ok (.iload 4, 2) := by decide +kernel
theorem dX4_openChild_16 : decode cX4_openChild 16 = .ok (.ifCond .lt 14, 3) := by decide +kernel
theorem dX4_openChild_19 : decode cX4_openChild 19 = .ok (.aload_n 0, 1) := by decide +kernel
theorem dX4_openChild_20 : decode cX4_openChild 20 = .ok (.getfield 22, 3) := by decide +kernel
theorem dX4_openChild_23 : decode cX4_openChild 23 = .ok (.iload_n 1, 1) := by decide +kernel
theorem dX4_openChild_24 : decode cX4_openChild 24 = .ok (.iaload, 1) := by decide +kernel
theorem dX4_openChild_25 : decode cX4_openChild 25 = .ok (.bipush 6, 2) := by decide +kernel
theorem dX4_openChild_27 : decode cX4_openChild 27 = .ok (.if_icmp .lt 4, 3) := by decide +kernel
theorem dX4_openChild_30 : decode cX4_openChild 30 = .ok (.return_, 1) := by decide +kernel
theorem dX4_openChild_31 : decode cX4_openChild 31 = .ok (.iload_n 1, 1) := by decide +kernel
theorem dX4_openChild_32 : decode cX4_openChild 32 = .ok (.bipush 6, 2) := by decide +kernel
theorem dX4_openChild_34 : decode cX4_openChild 34 = .ok (.imul, 1) := by decide +kernel
theorem dX4_openChild_35 : decode cX4_openChild 35 = .ok (.iload_n 2, 1) := by decide +kernel
theorem dX4_openChild_36 : decode cX4_openChild 36 = .ok (.iadd, 1) := by decide +kernel
theorem dX4_openChild_37 : decode cX4_openChild 37 = .ok (.istore 5, 2) := by decide +kernel
theorem dX4_openChild_39 : decode cX4_openChild 39 = .ok (.aload_n 0, 1) := by decide +kernel
theorem dX4_openChild_40 : decode cX4_openChild 40 = .ok (.getfield 37, 3) := by decide +kernel
theorem dX4_openChild_43 : decode cX4_openChild 43 = .ok (.iload 5, 2) := by decide +kernel
theorem dX4_openChild_45 : decode cX4_openChild 45 = .ok (.aload_n 0, 1) := by decide +kernel
theorem dX4_openChild_46 : decode cX4_openChild 46 = .ok (.getfield 37, 3) := by decide +kernel
theorem dX4_openChild_49 : decode cX4_openChild 49 = .ok (.iload 5, 2) := by decide +kernel
theorem dX4_openChild_51 : decode cX4_openChild 51 = .ok (.iconst 1, 1) := by decide +kernel
theorem dX4_openChild_52 : decode cX4_openChild 52 = .ok (.iadd, 1) := by decide +kernel
theorem dX4_openChild_53 : decode cX4_openChild 53 = .ok (.iload 4, 2) := by decide +kernel
theorem dX4_openChild_55 : decode cX4_openChild 55 = .ok (.invokestatic 64, 3) := by decide +kernel
theorem dX4_openChild_58 : decode cX4_openChild 58 = .ok (.aload_n 0, 1) := by decide +kernel
theorem dX4_openChild_59 : decode cX4_openChild 59 = .ok (.getfield 37, 3) := by decide +kernel
theorem dX4_openChild_62 : decode cX4_openChild 62 = .ok (.iload 5, 2) := by decide +kernel
theorem dX4_openChild_64 : decode cX4_openChild 64 = .ok (.iload_n 3, 1) := by decide +kernel
theorem dX4_openChild_65 : decode cX4_openChild 65 = .ok (.iastore, 1) := by decide +kernel
theorem dX4_openChild_66 : decode cX4_openChild 66 = .ok (.aload_n 0, 1) := by decide +kernel
theorem dX4_openChild_67 : decode cX4_openChild 67 = .ok (.getfield 28, 3) := by decide +kernel
theorem dX4_openChild_70 : decode cX4_openChild 70 = .ok (.iload_n 3, 1) := by decide +kernel
theorem dX4_openChild_71 : decode cX4_openChild 71 = .ok (.iload_n 1, 1) := by decide +kernel
theorem dX4_openChild_72 : decode cX4_openChild 72 = .ok (.iastore, 1) := by decide +kernel
theorem dX4_openChild_73 : decode cX4_openChild 73 = .ok (.aload_n 0, 1) := by decide +kernel
theorem dX4_openChild_74 : decode cX4_openChild 74 = .ok (.getfield 22, 3) := by decide +kernel
theorem dX4_openChild_77 : decode cX4_openChild 77 = .ok (.iload_n 1, 1) := by decide +kernel
theorem dX4_openChild_78 : decode cX4_openChild 78 = .ok (.dup2, 1) := by decide +kernel
theorem dX4_openChild_79 : decode cX4_openChild 79 = .ok (.iaload, 1) := by decide +kernel
theorem dX4_openChild_80 : decode cX4_openChild 80 = .ok (.iconst 1, 1) := by decide +kernel
theorem dX4_openChild_81 : decode cX4_openChild 81 = .ok (.iadd, 1) := by decide +kernel
theorem dX4_openChild_82 : decode cX4_openChild 82 = .ok (.iastore, 1) := by decide +kernel
theorem dX4_openChild_83 : decode cX4_openChild 83 = .ok (.return_, 1) := by decide +kernel
theorem dX4_closeChild_0 : decode cX4_closeChild 0 = .ok (.aload_n 0, 1) := by decide +kernel
theorem dX4_closeChild_1 : decode cX4_closeChild 1 = .ok (.getfield 22, 3) := by decide +kernel
theorem dX4_closeChild_4 : decode cX4_closeChild 4 = .ok (.iload_n 1, 1) := by decide +kernel
theorem dX4_closeChild_5 : decode cX4_closeChild 5 = .ok (.iaload, 1) := by decide +kernel
theorem dX4_closeChild_6 : decode cX4_closeChild 6 = .ok (.iload_n 2, 1) := by decide +kernel
theorem dX4_closeChild_7 : decode cX4_closeChild 7 = .ok (.isub, 1) := by decide +kernel
theorem dX4_closeChild_8 : decode cX4_closeChild 8 = .ok (.iconst 1, 1) := by decide +kernel
theorem dX4_closeChild_9 : decode cX4_closeChild 9 = .ok (.isub, 1) := by decide +kernel
theorem dX4_closeChild_10 : decode cX4_closeChild 10 = .ok (.istore_n 3, 1) := by decide +kernel
theorem dX4_closeChild_11 : decode cX4_closeChild 11 = .ok (.iload_n 2, 1) := by decide +kernel
theorem dX4_closeChild_12 : decode cX4_closeChild 12 = .ok (.ifCond .lt 7, 3) := by decide +kernel
theorem dX4_closeChild_15 : decode cX4_closeChild 15 = .ok (.iload_n 3, 1) := by decide +kernel
theorem dX4_closeChild_16 : decode cX4_closeChild 16 = .ok (.ifCond .ge 4, 3) := by decide +kernel
theorem dX4_closeChild_19 : decode cX4_closeChild 19 = .ok (.return_, 1) := by decide +kernel
theorem dX4_closeChild_20 : decode cX4_closeChild 20 = .ok (.iload_n 1, 1) := by decide +kernel
theorem dX4_closeChild_21 : decode cX4_closeChild 21 = .ok (.bipush 6, 2) := by decide +kernel
theorem dX4_closeChild_23 : decode cX4_closeChild 23 = .ok (.imul, 1) := by decide +kernel
theorem dX4_closeChild_24 : decode cX4_closeChild 24 = .ok (.iload_n 2, 1) := by decide +kernel
theorem dX4_closeChild_25 : decode cX4_closeChild 25 = .ok (.iadd, 1) := by decide +kernel
theorem dX4_closeChild_26 : decode cX4_closeChild 26 = .ok (.istore 4, 2) := by decide +kernel
theorem dX4_closeChild_28 : decode cX4_closeChild 28 = .ok (.aload_n 0, 1) := by decide +kernel
theorem dX4_closeChild_29 : decode cX4_closeChild 29 = .ok (.getfield 37, 3) := by decide +kernel
theorem dX4_closeChild_32 : decode cX4_closeChild 32 = .ok (.iload 4, 2) := by decide +kernel
theorem dX4_closeChild_34 : decode cX4_closeChild 34 = .ok (.iconst 1, 1) := by decide +kernel
theorem dX4_closeChild_35 : decode cX4_closeChild 35 = .ok (.iadd, 1) := by decide +kernel
theorem dX4_closeChild_36 : decode cX4_closeChild 36 = .ok (.aload_n 0, 1) := by decide +kernel
theorem dX4_closeChild_37 : decode cX4_closeChild 37 = .ok (.getfield 37, 3) := by decide +kernel
theorem dX4_closeChild_40 : decode cX4_closeChild 40 = .ok (.iload 4, 2) := by decide +kernel
theorem dX4_closeChild_42 : decode cX4_closeChild 42 = .ok (.iload_n 3, 1) := by decide +kernel
theorem dX4_closeChild_43 : decode cX4_closeChild 43 = .ok (.invokestatic 64, 3) := by decide +kernel
theorem dX4_closeChild_46 : decode cX4_closeChild 46 = .ok (.aload_n 0, 1) := by decide +kernel
theorem dX4_closeChild_47 : decode cX4_closeChild 47 = .ok (.getfield 22, 3) := by decide +kernel
theorem dX4_closeChild_50 : decode cX4_closeChild 50 = .ok (.iload_n 1, 1) := by decide +kernel
theorem dX4_closeChild_51 : decode cX4_closeChild 51 = .ok (.dup2, 1) := by decide +kernel
theorem dX4_closeChild_52 : decode cX4_closeChild 52 = .ok (.iaload, 1) := by decide +kernel
theorem dX4_closeChild_53 : decode cX4_closeChild 53 = .ok (.iconst 1, 1) := by decide +kernel
theorem dX4_closeChild_54 : decode cX4_closeChild 54 = .ok (.isub, 1) := by decide +kernel
theorem dX4_closeChild_55 : decode cX4_closeChild 55 = .ok (.iastore, 1) := by decide +kernel
theorem dX4_closeChild_56 : decode cX4_closeChild 56 = .ok (.return_, 1) := by decide +kernel
theorem dX4_shiftChild_0 : decode cX4_shiftChild 0 = .ok (.aload_n 0, 1) := by decide +kernel
theorem dX4_shiftChild_1 : decode cX4_shiftChild 1 = .ok (.getfield 37, 3) := by decide +kernel
theorem dX4_shiftChild_4 : decode cX4_shiftChild 4 = .ok (.iload_n 1, 1) := by decide +kernel
theorem dX4_shiftChild_5 : decode cX4_shiftChild 5 = .ok (.bipush 6, 2) := by decide +kernel
theorem dX4_shiftChild_7 : decode cX4_shiftChild 7 = .ok (.imul, 1) := by decide +kernel
theorem dX4_shiftChild_8 : decode cX4_shiftChild 8 = .ok (.iload_n 2, 1) := by decide +kernel
theorem dX4_shiftChild_9 : decode cX4_shiftChild 9 = .ok (.iadd, 1) := by decide +kernel
theorem dX4_shiftChild_10 : decode cX4_shiftChild 10 = .ok (.iaload, 1) := by decide +kernel
theorem dX4_shiftChild_11 : decode cX4_shiftChild 11 = .ok (.istore 5, 2) := by decide +kernel
theorem dX4_shiftChild_13 : decode cX4_shiftChild 13 = .ok (.aload_n 0, 1) := by decide +kernel
theorem dX4_shiftChild_14 : decode cX4_shiftChild 14 = .ok (.iload_n 1, 1) := by decide +kernel
theorem dX4_shiftChild_15 : decode cX4_shiftChild 15 = .ok (.iload_n 2, 1) := by decide +kernel
theorem dX4_shiftChild_16 : decode cX4_shiftChild 16 = .ok (.invokevirtual 134, 3) := by decide +kernel
theorem dX4_shiftChild_19 : decode cX4_shiftChild 19 = .ok (.aload_n 0, 1) := by decide +kernel
theorem dX4_shiftChild_20 : decode cX4_shiftChild 20 = .ok (.iload_n 3, 1) := by decide +kernel
theorem dX4_shiftChild_21 : decode cX4_shiftChild 21 = .ok (.iload 4, 2) := by decide +kernel
theorem dX4_shiftChild_23 : decode cX4_shiftChild 23 = .ok (.iload 5, 2) := by decide +kernel
theorem dX4_shiftChild_25 : decode cX4_shiftChild 25 = .ok (.invokevirtual 124, 3) := by decide +kernel
theorem dX4_shiftChild_28 : decode cX4_shiftChild 28 = .ok (.return_, 1) := by decide +kernel
theorem dX4_firstKeyBelow_0 : decode cX4_firstKeyBelow 0 = .ok (.iload_n 1, 1) := by decide +kernel
theorem dX4_firstKeyBelow_1 : decode cX4_firstKeyBelow 1 = .ok (.istore_n 2, 1) := by decide +kernel
theorem dX4_firstKeyBelow_2 : decode cX4_firstKeyBelow 2 = .ok (.aload_n 0, 1) := by decide +kernel
theorem dX4_firstKeyBelow_3 : decode cX4_firstKeyBelow 3 = .ok (.getfield 19, 3) := by decide +kernel
theorem dX4_firstKeyBelow_6 : decode cX4_firstKeyBelow 6 = .ok (.iload_n 1, 1) := by decide +kernel
theorem dX4_firstKeyBelow_7 : decode cX4_firstKeyBelow 7 = .ok (.iaload, 1) := by decide +kernel
theorem dX4_firstKeyBelow_8 : decode cX4_firstKeyBelow 8 = .ok (.istore_n 3, 1) := by decide +kernel
theorem dX4_firstKeyBelow_9 : decode cX4_firstKeyBelow 9 = .ok (.iload_n 3, 1) := by decide +kernel
theorem dX4_firstKeyBelow_10 : decode cX4_firstKeyBelow 10 = .ok (.ifCond .le 19, 3) := by decide +kernel
theorem dX4_firstKeyBelow_13 : decode cX4_firstKeyBelow 13 = .ok (.aload_n 0, 1) := by decide +kernel
theorem dX4_firstKeyBelow_14 : decode cX4_firstKeyBelow 14 = .ok (.getfield 37, 3) := by decide +kernel
theorem dX4_firstKeyBelow_17 : decode cX4_firstKeyBelow 17 = .ok (.iload_n 2, 1) := by decide +kernel
theorem dX4_firstKeyBelow_18 : decode cX4_firstKeyBelow 18 = .ok (.bipush 6, 2) := by decide +kernel
theorem dX4_firstKeyBelow_20 : decode cX4_firstKeyBelow 20 = .ok (.imul, 1) := by decide +kernel
theorem dX4_firstKeyBelow_21 : decode cX4_firstKeyBelow 21 = .ok (.iaload, 1) := by decide +kernel
theorem dX4_firstKeyBelow_22 : decode cX4_firstKeyBelow 22 = .ok (.istore_n 2, 1) := by decide +kernel
theorem dX4_firstKeyBelow_23 : decode cX4_firstKeyBelow 23 = .ok (.iinc 3 (-1), 3) := by decide +kernel
theorem dX4_firstKeyBelow_26 : decode cX4_firstKeyBelow 26 = .ok (.goto (-17), 3) := by decide +kernel
theorem dX4_firstKeyBelow_29 : decode cX4_firstKeyBelow 29 = .ok (.aload_n 0, 1) := by decide +kernel
theorem dX4_firstKeyBelow_30 : decode cX4_firstKeyBelow 30 = .ok (.getfield 40, 3) := by decide +kernel
theorem dX4_firstKeyBelow_33 : decode cX4_firstKeyBelow 33 = .ok (.iload_n 2, 1) := by decide +kernel
theorem dX4_firstKeyBelow_34 : decode cX4_firstKeyBelow 34 = .ok (.bipush 14, 2) := by decide +kernel
theorem dX4_firstKeyBelow_36 : decode cX4_firstKeyBelow 36 = .ok (.imul, 1) := by decide +kernel
theorem dX4_firstKeyBelow_37 : decode cX4_firstKeyBelow 37 = .ok (.iaload, 1) := by decide +kernel
theorem dX4_firstKeyBelow_38 : decode cX4_firstKeyBelow 38 = .ok (.ireturn, 1) := by decide +kernel
theorem dX4_sameMap_0 : decode cX4_sameMap 0 = .ok (.aload_n 0, 1) := by decide +kernel
theorem dX4_sameMap_1 : decode cX4_sameMap 1 = .ok (.getfield 53, 3) := by decide +kernel
theorem dX4_sameMap_4 : decode cX4_sameMap 4 = .ok (.aload_n 1, 1) := by decide +kernel
theorem dX4_sameMap_5 : decode cX4_sameMap 5 = .ok (.getfield 53, 3) := by decide +kernel
theorem dX4_sameMap_8 : decode cX4_sameMap 8 = .ok (.if_icmp .eq 5, 3) := by decide +kernel
theorem dX4_sameMap_11 : decode cX4_sameMap 11 = .ok (.iconst 0, 1) := by decide +kernel
theorem dX4_sameMap_12 : decode cX4_sameMap 12 = .ok (.ireturn, 1) := by decide +kernel
theorem dX4_sameMap_13 : decode cX4_sameMap 13 = .ok (.iconst 0, 1) := by decide +kernel
theorem dX4_sameMap_14 : decode cX4_sameMap 14 = .ok (.istore_n 2, 1) := by decide +kernel
theorem dX4_sameMap_15 : decode cX4_sameMap 15 = .ok (.iload_n 2, 1) := by decide +kernel
theorem dX4_sameMap_16 : decode cX4_sameMap 16 = .ok (.aload_n 0, 1) := by decide +kernel
theorem dX4_sameMap_17 : decode cX4_sameMap 17 = .ok (.getfield 9, 3) := by decide +kernel
theorem dX4_sameMap_20 : decode cX4_sameMap 20 = .ok (.if_icmp .ge 42, 3) := by decide +kernel
theorem dX4_sameMap_23 : decode cX4_sameMap 23 = .ok (.aload_n 0, 1) := by decide +kernel
theorem dX4_sameMap_24 : decode cX4_sameMap 24 = .ok (.getfield 15, 3) := by decide +kernel
theorem dX4_sameMap_27 : decode cX4_sameMap 27 = .ok (.iload_n 2, 1) := by decide +kernel
theorem dX4_sameMap_28 : decode cX4_sameMap 28 = .ok (.iaload, 1) := by decide +kernel
theorem dX4_sameMap_29 : decode cX4_sameMap 29 = .ok (.ifCond .ne 7, 3) := by decide +kernel
theorem dX4_sameMap_32 : decode cX4_sameMap 32 = .ok (.iconst 1, 1) := by decide +kernel
theorem dX4_sameMap_33 : decode cX4_sameMap 33 = .ok (.goto 4, 3) := by decide +kernel
theorem dX4_sameMap_36 : decode cX4_sameMap 36 = .ok (.iconst 0, 1) := by decide +kernel
theorem dX4_sameMap_37 : decode cX4_sameMap 37 = .ok (.aload_n 1, 1) := by decide +kernel
theorem dX4_sameMap_38 : decode cX4_sameMap 38 = .ok (.getfield 15, 3) := by decide +kernel
theorem dX4_sameMap_41 : decode cX4_sameMap 41 = .ok (.iload_n 2, 1) := by decide +kernel
theorem dX4_sameMap_42 : decode cX4_sameMap 42 = .ok (.iaload, 1) := by decide +kernel
theorem dX4_sameMap_43 : decode cX4_sameMap 43 = .ok (.ifCond .ne 7, 3) := by decide +kernel
theorem dX4_sameMap_46 : decode cX4_sameMap 46 = .ok (.iconst 1, 1) := by decide +kernel
theorem dX4_sameMap_47 : decode cX4_sameMap 47 = .ok (.goto 4, 3) := by decide +kernel
theorem dX4_sameMap_50 : decode cX4_sameMap 50 = .ok (.iconst 0, 1) := by decide +kernel
theorem dX4_sameMap_51 : decode cX4_sameMap 51 = .ok (.if_icmp .eq 5, 3) := by decide +kernel
theorem dX4_sameMap_54 : decode cX4_sameMap 54 = .ok (.iconst 0, 1) := by decide +kernel
theorem dX4_sameMap_55 : decode cX4_sameMap 55 = .ok (.ireturn, 1) := by decide +kernel
