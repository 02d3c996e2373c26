theorem dX0_init_0 : decode cX0_init 0 = .ok (.aload_n 0, 1) := by decide +kernel
theorem dX0_init_1 : decode cX0_init 1 = .ok (.invokespecial 3, 3) := by decide +kernel
theorem dX0_init_4 : decode cX0_init 4 = .ok (.aload_n 0, 1) := by decide +kernel
theorem dX0_init_5 : decode cX0_init 5 = .ok (.bipush 12, 2) := by decide +kernel
theorem dX0_init_7 : decode cX0_init 7 = .ok (.newarray .int, 2) := by decide +kernel
theorem dX0_init_9 : decode cX0_init 9 = .ok (.putfield 9, 3) := by decide +kernel
theorem dX0_init_12 : decode cX0_init 12 = .ok (.aload_n 0, 1) := by decide +kernel
theorem dX0_init_13 : decode cX0_init 13 = .ok (.iconst 4, 1) := by decide +kernel
theorem dX0_init_14 : decode cX0_init 14 = .ok (.newarray .int, 2) := by decide +kernel
theorem dX0_init_16 : decode cX0_init 16 = .ok (.putfield 15, 3) := by decide +kernel
theorem dX0_init_19 : decode cX0_init 19 = .ok (.aload_n 0, 1) := by decide +kernel
theorem dX0_init_20 : decode cX0_init 20 = .ok (.iconst 0, 1) := by decide +kernel
theorem dX0_init_21 : decode cX0_init 21 = .ok (.putfield 18, 3) := by decide +kernel
theorem dX0_init_24 : decode cX0_init 24 = .ok (.aload_n 0, 1) := by decide +kernel
theorem dX0_init_25 : decode cX0_init 25 = .ok (.iconst 0, 1) := by decide +kernel
theorem dX0_init_26 : decode cX0_init 26 = .ok (.putfield 22, 3) := by decide +kernel
theorem dX0_init_29 : decode cX0_init 29 = .ok (.aload_n 0, 1) := by decide +kernel
theorem dX0_init_30 : decode cX0_init 30 = .ok (.iconst 0, 1) := by decide +kernel
theorem dX0_init_31 : decode cX0_init 31 = .ok (.putfield 26, 3) := by decide +kernel
theorem dX0_init_34 : decode cX0_init 34 = .ok (.return_, 1) := by decide +kernel
theorem dX0_valueAt_0 : decode cX0_valueAt 0 = .ok (.aload_n 0, 1) := by decide +kernel
theorem dX0_valueAt_1 : decode cX0_valueAt 1 = .ok (.getfield 22, 3) := by decide +kernel
theorem dX0_valueAt_4 : decode cX0_valueAt 4 = .ok (.ifCond .eq 33, 3) := by decide +kernel
theorem dX0_valueAt_7 : decode cX0_valueAt 7 = .ok (.iload_n 1, 1) := by decide +kernel
theorem dX0_valueAt_8 : decode cX0_valueAt 8 = .ok (.ifCond .lt 29, 3) := by decide +kernel
theorem dX0_valueAt_11 : decode cX0_valueAt 11 = .ok (.iload_n 1, 1) := by decide +kernel
theorem dX0_valueAt_12 : decode cX0_valueAt 12 = .ok (.aload_n 0, 1) := by decide +kernel
theorem dX0_valueAt_13 : decode cX0_valueAt 13 = .ok (.getfield 18, 3) := by decide +kernel
theorem dX0_valueAt_16 : decode cX0_valueAt 16 = .ok (.if_icmp .ge 21, 3) := by decide +kernel
theorem dX0_valueAt_19 : decode cX0_valueAt 19 = .ok (.iload_n 1, 1) := by decide +kernel
theorem dX0_valueAt_20 : decode cX0_valueAt 20 = .ok (.aload_n 0, 1) := by decide +kernel
theorem dX0_valueAt_21 : decode cX0_valueAt 21 = .ok (.getfield 9, 3) := by decide +kernel
theorem dX0_valueAt_24 : decode cX0_valueAt 24 = .ok (.arraylength, 1) := by decide +kernel
theorem dX0_valueAt_25 : decode cX0_valueAt 25 = .ok (.if_icmp .ge 12, 3) := by decide +kernel
theorem dX0_valueAt_28 : decode cX0_valueAt 28 = .ok (.aload_n 0, 1) := by decide +kernel
theorem dX0_valueAt_29 : decode cX0_valueAt 29 = .ok (.getfield 9, 3) := by decide +kernel
theorem dX0_valueAt_32 : decode cX0_valueAt 32 = .ok (.iload_n 1, 1) := by decide +kernel
theorem dX0_valueAt_33 : decode cX0_valueAt 33 = .ok (.iaload, 1) := by decide +kernel
theorem dX0_valueAt_34 : decode cX0_valueAt 34 = .ok (.goto 4, 3) := by decide +kernel
theorem dX0_valueAt_37 : decode cX0_valueAt 37 = .ok (.iconst (-1), 1) := by decide +kernel
theorem dX0_valueAt_38 : decode cX0_valueAt 38 = .ok (.ireturn, 1) := by decide +kernel
theorem dX0_holdsFor_0 : decode cX0_holdsFor 0 = .ok (.aload_n 0, 1) := by decide +kernel
theorem dX0_holdsFor_1 : decode cX0_holdsFor 1 = .ok (.getfield 22, 3) := by decide +kernel
theorem dX0_holdsFor_4 : decode cX0_holdsFor 4 = .ok (.ifCond .eq 25, 3) := by decide +kernel
theorem dX0_holdsFor_7 : decode cX0_holdsFor 7 = .ok (.aload_n 2, 1) := by decide +kernel
theorem dX0_holdsFor_8 : decode cX0_holdsFor 8 = .ok (.getfield 41, 3) := by decide +kernel
theorem dX0_holdsFor_11 : decode cX0_holdsFor 11 = .ok (.ifCond .eq 18, 3) := by decide +kernel
theorem dX0_holdsFor_14 : decode cX0_holdsFor 14 = .ok (.aload_n 0, 1) := by decide +kernel
theorem dX0_holdsFor_15 : decode cX0_holdsFor 15 = .ok (.getfield 26, 3) := by decide +kernel
theorem dX0_holdsFor_18 : decode cX0_holdsFor 18 = .ok (.aload_n 1, 1) := by decide +kernel
theorem dX0_holdsFor_19 : decode cX0_holdsFor 19 = .ok (.getfield 29, 3) := by decide +kernel
theorem dX0_holdsFor_22 : decode cX0_holdsFor 22 = .ok (.if_icmp .ne 7, 3) := by decide +kernel
theorem dX0_holdsFor_25 : decode cX0_holdsFor 25 = .ok (.iconst 1, 1) := by decide +kernel
theorem dX0_holdsFor_26 : decode cX0_holdsFor 26 = .ok (.goto 4, 3) := by decide +kernel
theorem dX0_holdsFor_29 : decode cX0_holdsFor 29 = .ok (.iconst 0, 1) := by decide +kernel
theorem dX0_holdsFor_30 : decode cX0_holdsFor 30 = .ok (.istore_n 3, 1) := by decide +kernel
theorem dX0_holdsFor_31 : decode cX0_holdsFor 31 = .ok (.iconst 0, 1) := by decide +kernel
theorem dX0_holdsFor_32 : decode cX0_holdsFor 32 = .ok (.istore 4, 2) := by decide +kernel
theorem dX0_holdsFor_34 : decode cX0_holdsFor 34 = .ok (.iload 4, 2) := by decide +kernel
theorem dX0_holdsFor_36 : decode cX0_holdsFor 36 = .ok (.iconst 4, 1) := by decide +kernel
theorem dX0_holdsFor_37 : decode cX0_holdsFor 37 = .ok (.if_icmp .ge 36, 3) := by decide +kernel
theorem dX0_holdsFor_40 : decode cX0_holdsFor 40 = .ok (.iload_n 3, 1) := by decide +kernel
theorem dX0_holdsFor_41 : decode cX0_holdsFor 41 = .ok (.ifCond .eq 24, 3) := by decide +kernel
theorem dX0_holdsFor_44 : decode cX0_holdsFor 44 = .ok (.aload_n 0, 1) := by decide +kernel
theorem dX0_holdsFor_45 : decode cX0_holdsFor 45 = .ok (.getfield 15, 3) := by decide +kernel
theorem dX0_holdsFor_48 : decode cX0_holdsFor 48 = .ok (.iload 4, 2) := by decide +kernel
theorem dX0_holdsFor_50 : decode cX0_holdsFor 50 = .ok (.iaload, 1) := by decide +kernel
theorem dX0_holdsFor_51 : decode cX0_holdsFor 51 = .ok (.aload_n 2, 1) := by decide +kernel
theorem dX0_holdsFor_52 : decode cX0_holdsFor 52 = .ok (.getfield 32, 3) := by decide +kernel
theorem dX0_holdsFor_55 : decode cX0_holdsFor 55 = .ok (.iload 4, 2) := by decide +kernel
theorem dX0_holdsFor_57 : decode cX0_holdsFor 57 = .ok (.iaload, 1) := by decide +kernel
theorem dX0_holdsFor_58 : decode cX0_holdsFor 58 = .ok (.if_icmp .ne 7, 3) := by decide +kernel
theorem dX0_holdsFor_61 : decode cX0_holdsFor 61 = .ok (.iconst 1, 1) := by decide +kernel
theorem dX0_holdsFor_62 : decode cX0_holdsFor 62 = .ok (.goto 4, 3) := by decide +kernel
theorem dX0_holdsFor_65 : decode cX0_holdsFor 65 = .ok (.iconst 0, 1) := by decide +kernel
theorem dX0_holdsFor_66 : decode cX0_holdsFor 66 = .ok (.istore_n 3, 1) := by decide +kernel
theorem dX0_holdsFor_67 : decode cX0_holdsFor 67 = .ok (.iinc 4 1, 3) := by decide +kernel
theorem dX0_holdsFor_70 : decode cX0_holdsFor 70 = .ok (.goto (-36), 3) := by decide +kernel
theorem dX0_holdsFor_73 : decode cX0_holdsFor 73 = .ok (.iload_n 3, 1) := by decide +kernel
theorem dX0_holdsFor_74 : decode cX0_holdsFor 74 = .ok (.ireturn, 1) := by decide +kernel
theorem dX1_init_0 : decode cX1_init 0 = .ok (.aload_n 0, 1) := by decide +kernel
theorem dX1_init_1 : decode cX1_init 1 = .ok (.invokespecial 3, 3) := by decide +kernel
theorem dX1_init_4 : decode cX1_init 4 = .ok (.aload_n 0, 1) := by decide +kernel
theorem dX1_init_5 : decode cX1_init 5 = .ok (.getstatic 9, 3) := by decide +kernel
theorem dX1_init_8 : decode cX1_init 8 = .ok (.invokevirtual 13, 3) := by decide +kernel
theorem dX1_init_11 : decode cX1_init 11 = .ok (.checkcast 14, 3) := by decide +kernel
theorem dX1_init_14 : decode cX1_init 14 = .ok (.putfield 18, 3) := by decide +kernel
theorem dX1_init_17 : decode cX1_init 17 = .ok (.aload_n 0, 1) := by decide +kernel
theorem dX1_init_18 : decode cX1_init 18 = .ok (.bipush 12, 2) := by decide +kernel
theorem dX1_init_20 : decode cX1_init 20 = .ok (.newarray .long, 2) := by decide +kernel
theorem dX1_init_22 : decode cX1_init 22 = .ok (.putfield 23, 3) := by decide +kernel
theorem dX1_init_25 : decode cX1_init 25 = .ok (.aload_n 0, 1) := by decide +kernel
theorem dX1_init_26 : decode cX1_init 26 = .ok (.bipush 12, 2) := by decide +kernel
theorem dX1_init_28 : decode cX1_init 28 = .ok (.newarray .int, 2) := by decide +kernel
theorem dX1_init_30 : decode cX1_init 30 = .ok (.putfield 27, 3) := by decide +kernel
theorem dX1_init_33 : decode cX1_init 33 = .ok (.aload_n 0, 1) := by decide +kernel
theorem dX1_init_34 : decode cX1_init 34 = .ok (.bipush 12, 2) := by decide +kernel
theorem dX1_init_36 : decode cX1_init 36 = .ok (.newarray .int, 2) := by decide +kernel
theorem dX1_init_38 : decode cX1_init 38 = .ok (.putfield 30, 3) := by decide +kernel
theorem dX1_init_41 : decode cX1_init 41 = .ok (.aload_n 0, 1) := by decide +kernel
theorem dX1_init_42 : decode cX1_init 42 = .ok (.bipush 12, 2) := by decide +kernel
theorem dX1_init_44 : decode cX1_init 44 = .ok (.newarray .int, 2) := by decide +kernel
theorem dX1_init_46 : decode cX1_init 46 = .ok (.putfield 33, 3) := by decide +kernel
theorem dX1_init_49 : decode cX1_init 49 = .ok (.aload_n 0, 1) := by decide +kernel
theorem dX1_init_50 : decode cX1_init 50 = .ok (.bipush 12, 2) := by decide +kernel
theorem dX1_init_52 : decode cX1_init 52 = .ok (.newarray .int, 2) := by decide +kernel
theorem dX1_init_54 : decode cX1_init 54 = .ok (.putfield 36, 3) := by decide +kernel
theorem dX1_init_57 : decode cX1_init 57 = .ok (.aload_n 0, 1) := by decide +kernel
theorem dX1_init_58 : decode cX1_init 58 = .ok (.bipush 12, 2) := by decide +kernel
theorem dX1_init_60 : decode cX1_init 60 = .ok (.newarray .int, 2) := by decide +kernel
theorem dX1_init_62 : decode cX1_init 62 = .ok (.putfield 39, 3) := by decide +kernel
theorem dX1_init_65 : decode cX1_init 65 = .ok (.aload_n 0, 1) := by decide +kernel
theorem dX1_init_66 : decode cX1_init 66 = .ok (.bipush 12, 2) := by decide +kernel
theorem dX1_init_68 : decode cX1_init 68 = .ok (.newarray .int, 2) := by decide +kernel
theorem dX1_init_70 : decode cX1_init 70 = .ok (.putfield 42, 3) := by decide +kernel
theorem dX1_init_73 : decode cX1_init 73 = .ok (.aload_n 0, 1) := by decide +kernel
theorem dX1_init_74 : decode cX1_init 74 = .ok (.bipush 12, 2) := by decide +kernel
theorem dX1_init_76 : decode cX1_init 76 = .ok (.newarray .int, 2) := by decide +kernel
theorem dX1_init_78 : decode cX1_init 78 = .ok (.putfield 45, 3) := by decide +kernel
theorem dX1_init_81 : decode cX1_init 81 = .ok (.aload_n 0, 1) := by decide +kernel
theorem dX1_init_82 : decode cX1_init 82 = .ok (.bipush 6, 2) := by decide +kernel
theorem dX1_init_84 : decode cX1_init 84 = .ok (.newarray .long, 2) := by decide +kernel
theorem dX1_init_86 : decode cX1_init 86 = .ok (.putfield 48, 3) := by decide +kernel
theorem dX1_init_89 : decode cX1_init 89 = .ok (.aload_n 0, 1) := by decide +kernel
theorem dX1_init_90 : decode cX1_init 90 = .ok (.bipush 6, 2) := by decide +kernel
theorem dX1_init_92 : decode cX1_init 92 = .ok (.newarray .int, 2) := by decide +kernel
theorem dX1_init_94 : decode cX1_init 94 = .ok (.putfield 51, 3) := by decide +kernel
theorem dX1_init_97 : decode cX1_init 97 = .ok (.aload_n 0, 1) := by decide +kernel
theorem dX1_init_98 : decode cX1_init 98 = .ok (.bipush 6, 2) := by decide +kernel
theorem dX1_init_100 : decode cX1_init 100 = .ok (.newarray .int, 2) := by decide +kernel
theorem dX1_init_102 : decode cX1_init 102 = .ok (.putfield 54, 3) := by decide +kernel
theorem dX1_init_105 : decode cX1_init 105 = .ok (.aload_n 0, 1) := by decide +kernel
theorem dX1_init_106 : decode cX1_init 106 = .ok (.iconst 0, 1) := by decide +kernel
theorem dX1_init_107 : decode cX1_init 107 = .ok (.putfield 57, 3) := by decide +kernel
theorem dX1_init_110 : decode cX1_init 110 = .ok (.aload_n 0, 1) := by decide +kernel
theorem dX1_init_111 : decode cX1_init 111 = .ok (.iconst 0, 1) := by decide +kernel
theorem dX1_init_112 : decode cX1_init 112 = .ok (.putfield 61, 3) := by decide +kernel
theorem dX1_init_115 : decode cX1_init 115 = .ok (.aload_n 0, 1) := by decide +kernel
theorem dX1_init_116 : decode cX1_init 116 = .ok (.iconst 0, 1) := by decide +kernel
theorem dX1_init_117 : decode cX1_init 117 = .ok (.putfield 64, 3) := by decide +kernel
theorem dX1_init_120 : decode cX1_init 120 = .ok (.aload_n 0, 1) := by decide +kernel
theorem dX1_init_121 : decode cX1_init 121 = .ok (.iconst 0, 1) := by decide +kernel
theorem dX1_init_122 : decode cX1_init 122 = .ok (.putfield 67, 3) := by decide +kernel
theorem dX1_init_125 : decode cX1_init 125 = .ok (.aload_n 0, 1) := by decide +kernel
theorem dX1_init_126 : decode cX1_init 126 = .ok (.iconst 0, 1) := by decide +kernel
theorem dX1_init_127 : decode cX1_init 127 = .ok (.putfield 70, 3) := by decide +kernel
theorem dX1_init_130 : decode cX1_init 130 = .ok (.aload_n 0, 1) := by decide +kernel
theorem dX1_init_131 : decode cX1_init 131 = .ok (.iload_n 1, 1) := by decide +kernel
theorem dX1_init_132 : decode cX1_init 132 = .ok (.putfield 73, 3) := by decide +kernel
theorem dX1_init_135 : decode cX1_init 135 = .ok (.return_, 1) := by decide +kernel
theorem dX1_readFrom_0 : decode cX1_readFrom 0 = .ok (.aload_n 0, 1) := by decide +kernel
theorem dX1_readFrom_1 : decode cX1_readFrom 1 = .ok (.iconst 0, 1) := by decide +kernel
theorem dX1_readFrom_2 : decode cX1_readFrom 2 = .ok (.putfield 67, 3) := by decide +kernel
theorem dX1_readFrom_5 : decode cX1_readFrom 5 = .ok (.aload_n 0, 1) := by decide +kernel
theorem dX1_readFrom_6 : decode cX1_readFrom 6 = .ok (.getfield 67, 3) := by decide +kernel
theorem dX1_readFrom_9 : decode cX1_readFrom 9 = .ok (.sipush 900, 3) := by decide +kernel
theorem dX1_readFrom_12 : decode cX1_readFrom 12 = .ok (.if_icmp .ge 42, 3) := by decide +kernel
theorem dX1_readFrom_15 : decode cX1_readFrom 15 = .ok (.aload_n 1, 1) := by decide +kernel
theorem dX1_readFrom_16 : decode cX1_readFrom 16 = .ok (.getfield 98, 3) := by decide +kernel
theorem dX1_readFrom_19 : decode cX1_readFrom 19 = .ok (.ifCond .eq 35, 3) := by decide +kernel
theorem dX1_readFrom_22 : decode cX1_readFrom 22 = .ok (.aload_n 0, 1) := by decide +kernel
theorem dX1_readFrom_23 : decode cX1_readFrom 23 = .ok (.aload_n 1, 1) := by decide +kernel
theorem dX1_readFrom_24 : decode cX1_readFrom 24 = .ok (.invokevirtual 103, 3) := by decide +kernel
theorem dX1_readFrom_27 : decode cX1_readFrom 27 = .ok (.ifCond .eq 12, 3) := by decide +kernel
theorem dX1_readFrom_30 : decode cX1_readFrom 30 = .ok (.aload_n 1, 1) := by decide +kernel
theorem dX1_readFrom_31 : decode cX1_readFrom 31 = .ok (.bipush 59, 2) := by decide +kernel
theorem dX1_readFrom_33 : decode cX1_readFrom 33 = .ok (.invokevirtual 107, 3) := by decide +kernel
theorem dX1_readFrom_36 : decode cX1_readFrom 36 = .ok (.ifCond .ne 5, 3) := by decide +kernel
theorem dX1_readFrom_39 : decode cX1_readFrom 39 = .ok (.iconst 0, 1) := by decide +kernel
theorem dX1_readFrom_40 : decode cX1_readFrom 40 = .ok (.ireturn, 1) := by decide +kernel
theorem dX1_readFrom_41 : decode cX1_readFrom 41 = .ok (.aload_n 0, 1) := by decide +kernel
theorem dX1_readFrom_42 : decode cX1_readFrom 42 = .ok (.dup, 1) := by decide +kernel
theorem dX1_readFrom_43 : decode cX1_readFrom 43 = .ok (.getfield 67, 3) := by decide +kernel
theorem dX1_readFrom_46 : decode cX1_readFrom 46 = .ok (.iconst 1, 1) := by decide +kernel
theorem dX1_readFrom_47 : decode cX1_readFrom 47 = .ok (.iadd, 1) := by decide +kernel
theorem dX1_readFrom_48 : decode cX1_readFrom 48 = .ok (.putfield 67, 3) := by decide +kernel
theorem dX1_readFrom_51 : decode cX1_readFrom 51 = .ok (.goto (-46), 3) := by decide +kernel
theorem dX1_readFrom_54 : decode cX1_readFrom 54 = .ok (.iconst 1, 1) := by decide +kernel
theorem dX1_readFrom_55 : decode cX1_readFrom 55 = .ok (.ireturn, 1) := by decide +kernel
theorem dX2_init_0 : decode cX2_init 0 = .ok (.aload_n 0, 1) := by decide +kernel
theorem dX2_init_1 : decode cX2_init 1 = .ok (.invokespecial 1, 3) := by decide +kernel
theorem dX2_init_4 : decode cX2_init 4 = .ok (.aload_n 0, 1) := by decide +kernel
theorem dX2_init_5 : decode cX2_init 5 = .ok (.new 7, 3) := by decide +kernel
theorem dX2_init_8 : decode cX2_init 8 = .ok (.dup, 1) := by decide +kernel
theorem dX2_init_9 : decode cX2_init 9 = .ok (.invokespecial 9, 3) := by decide +kernel
theorem dX2_init_12 : decode cX2_init 12 = .ok (.putfield 10, 3) := by decide +kernel
theorem dX2_init_15 : decode cX2_init 15 = .ok (.aload_n 0, 1) := by decide +kernel
theorem dX2_init_16 : decode cX2_init 16 = .ok (.new 7, 3) := by decide +kernel
theorem dX2_init_19 : decode cX2_init 19 = .ok (.dup, 1) := by decide +kernel
theorem dX2_init_20 : decode cX2_init 20 = .ok (.invokespecial 9, 3) := by decide +kernel
theorem dX2_init_23 : decode cX2_init 23 = .ok (.putfield 16, 3) := by decide +kernel
theorem dX2_init_26 : decode cX2_init 26 = .ok (.aload_n 0, 1) := by decide +kernel
theorem dX2_init_27 : decode cX2_init 27 = .ok (.aconst_null, 1) := by decide +kernel
theorem dX2_init_28 : decode cX2_init 28 = .ok (.putfield 19, 3) := by decide +kernel
theorem dX2_init_31 : decode cX2_init 31 = .ok (.aload_n 0, 1) := by decide +kernel
theorem dX2_init_32 : decode cX2_init 32 = .ok (.aconst_null, 1) := by decide +kernel
theorem dX2_init_33 : decode cX2_init 33 = .ok (.putfield 23, 3) := by decide +kernel
theorem dX2_init_36 : decode cX2_init 36 = .ok (.aload_n 0, 1) := by decide +kernel
theorem dX2_init_37 : decode cX2_init 37 = .ok (.iconst 0, 1) := by decide +kernel
theorem dX2_init_38 : decode cX2_init 38 = .ok (.putfield 27, 3) := by decide +kernel
theorem dX2_init_41 : decode cX2_init 41 = .ok (.return_, 1) := by decide +kernel
theorem dX5_init_0 : decode cX5_init 0 = .ok (.aload_n 0, 1) := by decide +kernel
theorem dX5_init_1 : decode cX5_init 1 = .ok (.invokespecial 3, 3) := by decide +kernel
theorem dX5_init_4 : decode cX5_init 4 = .ok (.aload_n 0, 1) := by decide +kernel
theorem dX5_init_5 : decode cX5_init 5 = .ok (.iconst 4, 1) := by decide +kernel
theorem dX5_init_6 : decode cX5_init 6 = .ok (.newarray .int, 2) := by decide +kernel
theorem dX5_init_8 : decode cX5_init 8 = .ok (.putfield 9, 3) := by decide +kernel
theorem dX5_init_11 : decode cX5_init 11 = .ok (.aload_n 0, 1) := by decide +kernel
theorem dX5_init_12 : decode cX5_init 12 = .ok (.iconst 4, 1) := by decide +kernel
theorem dX5_init_13 : decode cX5_init 13 = .ok (.newarray .int, 2) := by decide +kernel
theorem dX5_init_15 : decode cX5_init 15 = .ok (.putfield 15, 3) := by decide +kernel
theorem dX5_init_18 : decode cX5_init 18 = .ok (.aload_n 0, 1) := by decide +kernel
theorem dX5_init_19 : decode cX5_init 19 = .ok (.bipush 12, 2) := by decide +kernel
theorem dX5_init_21 : decode cX5_init 21 = .ok (.newarray .int, 2) := by decide +kernel
theorem dX5_init_23 : decode cX5_init 23 = .ok (.putfield 18, 3) := by decide +kernel
theorem dX5_init_26 : decode cX5_init 26 = .ok (.aload_n 0, 1) := by decide +kernel
theorem dX5_init_27 : decode cX5_init 27 = .ok (.iconst 0, 1) := by decide +kernel
theorem dX5_init_28 : decode cX5_init 28 = .ok (.putfield 21, 3) := by decide +kernel
theorem dX5_init_31 : decode cX5_init 31 = .ok (.aload_n 0, 1) := by decide +kernel
theorem dX5_init_32 : decode cX5_init 32 = .ok (.iconst 0, 1) := by decide +kernel
theorem dX5_init_33 : decode cX5_init 33 = .ok (.putfield 25, 3) := by decide +kernel
theorem dX5_init_36 : decode cX5_init 36 = .ok (.aload_n 0, 1) := by decide +kernel
theorem dX5_init_37 : decode cX5_init 37 = .ok (.iconst (-1), 1) := by decide +kernel
theorem dX5_init_38 : decode cX5_init 38 = .ok (.putfield 29, 3) := by decide +kernel
theorem dX5_init_41 : decode cX5_init 41 = .ok (.aload_n 0, 1) := by decide +kernel
theorem dX5_init_42 : decode cX5_init 42 = .ok (.iconst 1, 1) := by decide +kernel
theorem dX5_init_43 : decode cX5_init 43 = .ok (.putfield 32, 3) := by decide +kernel
theorem dX5_init_46 : decode cX5_init 46 = .ok (.aload_n 0, 1) := by decide +kernel
theorem dX5_init_47 : decode cX5_init 47 = .ok (.iconst 0, 1) := by decide +kernel
theorem dX5_init_48 : decode cX5_init 48 = .ok (.putfield 35, 3) := by decide +kernel
theorem dX5_init_51 : decode cX5_init 51 = .ok (.aload_n 0, 1) := by decide +kernel
theorem dX5_init_52 : decode cX5_init 52 = .ok (.iconst 0, 1) := by decide +kernel
theorem dX5_init_53 : decode cX5_init 53 = .ok (.putfield 38, 3) := by decide +kernel
theorem dX5_init_56 : decode cX5_init 56 = .ok (.aload_n 0, 1) := by decide +kernel
theorem dX5_init_57 : decode cX5_init 57 = .ok (.iconst 0, 1) := by decide +kernel
theorem dX5_init_58 : decode cX5_init 58 = .ok (.putfield 41, 3) := by decide +kernel
theorem dX5_init_61 : decode cX5_init 61 = .ok (.aload_n 0, 1) := by decide +kernel
theorem dX5_init_62 : decode cX5_init 62 = .ok (.iconst 0, 1) := by decide +kernel
theorem dX5_init_63 : decode cX5_init 63 = .ok (.putfield 44, 3) := by decide +kernel
theorem dX5_init_66 : decode cX5_init 66 = .ok (.return_, 1) := by decide +kernel
theorem dX5_clear_0 : decode cX5_clear 0 = .ok (.aload_n 0, 1) := by decide +kernel
theorem dX5_clear_1 : decode cX5_clear 1 = .ok (.iconst 0, 1) := by decide +kernel
theorem dX5_clear_2 : decode cX5_clear 2 = .ok (.putfield 21, 3) := by decide +kernel
theorem dX5_clear_5 : decode cX5_clear 5 = .ok (.aload_n 0, 1) := by decide +kernel
theorem dX5_clear_6 : decode cX5_clear 6 = .ok (.iconst 0, 1) := by decide +kernel
theorem dX5_clear_7 : decode cX5_clear 7 = .ok (.putfield 25, 3) := by decide +kernel
theorem dX5_clear_10 : decode cX5_clear 10 = .ok (.aload_n 0, 1) := by decide +kernel
theorem dX5_clear_11 : decode cX5_clear 11 = .ok (.aload_n 1, 1) := by decide +kernel
theorem dX5_clear_12 : decode cX5_clear 12 = .ok (.getfield 47, 3) := by decide +kernel
theorem dX5_clear_15 : decode cX5_clear 15 = .ok (.ifCond .le 7, 3) := by decide +kernel
theorem dX5_clear_18 : decode cX5_clear 18 = .ok (.iconst 0, 1) := by decide +kernel
theorem dX5_clear_19 : decode cX5_clear 19 = .ok (.goto 4, 3) := by decide +kernel
theorem dX5_clear_22 : decode cX5_clear 22 = .ok (.iconst (-1), 1) := by decide +kernel
theorem dX5_clear_23 : decode cX5_clear 23 = .ok (.putfield 29, 3) := by decide +kernel
theorem dX5_clear_26 : decode cX5_clear 26 = .ok (.aload_n 0, 1) := by decide +kernel
theorem dX5_clear_27 : decode cX5_clear 27 = .ok (.iconst 1, 1) := by decide +kernel
theorem dX5_clear_28 : decode cX5_clear 28 = .ok (.putfield 32, 3) := by decide +kernel
theorem dX5_clear_31 : decode cX5_clear 31 = .ok (.aload_n 0, 1) := by decide +kernel
theorem dX5_clear_32 : decode cX5_clear 32 = .ok (.getfield 9, 3) := by decide +kernel
theorem dX5_clear_35 : decode cX5_clear 35 = .ok (.iconst 0, 1) := by decide +kernel
theorem dX5_clear_36 : decode cX5_clear 36 = .ok (.invokestatic 52, 3) := by decide +kernel
theorem dX5_clear_39 : decode cX5_clear 39 = .ok (.aload_n 0, 1) := by decide +kernel
theorem dX5_clear_40 : decode cX5_clear 40 = .ok (.getfield 15, 3) := by decide +kernel
theorem dX5_clear_43 : decode cX5_clear 43 = .ok (.aload_n 1, 1) := by decide +kernel
theorem dX5_clear_44 : decode cX5_clear 44 = .ok (.getfield 58, 3) := by decide +kernel
theorem dX5_clear_47 : decode cX5_clear 47 = .ok (.iconst 0, 1) := by decide +kernel
theorem dX5_clear_48 : decode cX5_clear 48 = .ok (.iaload, 1) := by decide +kernel
theorem dX5_clear_49 : decode cX5_clear 49 = .ok (.iconst 1, 1) := by decide +kernel
theorem dX5_clear_50 : decode cX5_clear 50 = .ok (.isub, 1) := by decide +kernel
theorem dX5_clear_51 : decode cX5_clear 51 = .ok (.invokestatic 52, 3) := by decide +kernel
theorem dX5_clear_54 : decode cX5_clear 54 = .ok (.aload_n 1, 1) := by decide +kernel
theorem dX5_clear_55 : decode cX5_clear 55 = .ok (.getfield 61, 3) := by decide +kernel
theorem dX5_clear_58 : decode cX5_clear 58 = .ok (.iconst 0, 1) := by decide +kernel
theorem dX5_clear_59 : decode cX5_clear 59 = .ok (.aload_n 0, 1) := by decide +kernel
theorem dX5_clear_60 : decode cX5_clear 60 = .ok (.getfield 18, 3) := by decide +kernel
theorem dX5_clear_63 : decode cX5_clear 63 = .ok (.iconst 0, 1) := by decide +kernel
theorem dX5_clear_64 : decode cX5_clear 64 = .ok (.bipush 12, 2) := by decide +kernel
theorem dX5_clear_66 : decode cX5_clear 66 = .ok (.invokestatic 64, 3) := by decide +kernel
theorem dX5_clear_69 : decode cX5_clear 69 = .ok (.return_, 1) := by decide +kernel
theorem dX5_copyFrom_0 : decode cX5_copyFrom 0 = .ok (.aload_n 0, 1) := by decide +kernel
theorem dX5_copyFrom_1 : decode cX5_copyFrom 1 = .ok (.aload_n 1, 1) := by decide +kernel
theorem dX5_copyFrom_2 : decode cX5_copyFrom 2 = .ok (.getfield 21, 3) := by decide +kernel
theorem dX5_copyFrom_5 : decode cX5_copyFrom 5 = .ok (.putfield 21, 3) := by decide +kernel
theorem dX5_copyFrom_8 : decode cX5_copyFrom 8 = .ok (.aload_n 0, 1) := by decide +kernel
theorem dX5_copyFrom_9 : decode cX5_copyFrom 9 = .ok (.aload_n 1, 1) := by decide +kernel
theorem dX5_copyFrom_10 : decode cX5_copyFrom 10 = .ok (.getfield 25, 3) := by decide +kernel
theorem dX5_copyFrom_13 : decode cX5_copyFrom 13 = .ok (.putfield 25, 3) := by decide +kernel
theorem dX5_copyFrom_16 : decode cX5_copyFrom 16 = .ok (.aload_n 0, 1) := by decide +kernel
theorem dX5_copyFrom_17 : decode cX5_copyFrom 17 = .ok (.aload_n 1, 1) := by decide +kernel
theorem dX5_copyFrom_18 : decode cX5_copyFrom 18 = .ok (.getfield 29, 3) := by decide +kernel
theorem dX5_copyFrom_21 : decode cX5_copyFrom 21 = .ok (.putfield 29, 3) := by decide +kernel
theorem dX5_copyFrom_24 : decode cX5_copyFrom 24 = .ok (.aload_n 0, 1) := by decide +kernel
theorem dX5_copyFrom_25 : decode cX5_copyFrom 25 = .ok (.aload_n 1, 1) := by decide +kernel
theorem dX5_copyFrom_26 : decode cX5_copyFrom 26 = .ok (.getfield 32, 3) := by decide +kernel
theorem dX5_copyFrom_29 : decode cX5_copyFrom 29 = .ok (.putfield 32, 3) := by decide +kernel
theorem dX5_copyFrom_32 : decode cX5_copyFrom 32 = .ok (.aload_n 1, 1) := by decide +kernel
theorem dX5_copyFrom_33 : decode cX5_copyFrom 33 = .ok (.getfield 9, 3) := by decide +kernel
theorem dX5_copyFrom_36 : decode cX5_copyFrom 36 = .ok (.iconst 0, 1) := by decide +kernel
theorem dX5_copyFrom_37 : decode cX5_copyFrom 37 = .ok (.aload_n 0, 1) := by decide +kernel
theorem dX5_copyFrom_38 : decode cX5_copyFrom 38 = .ok (.getfield 9, 3) := by decide +kernel
theorem dX5_copyFrom_41 : decode cX5_copyFrom 41 = .ok (.iconst 0, 1) := by decide +kernel
theorem dX5_copyFrom_42 : decode cX5_copyFrom 42 = .ok (.iconst 4, 1) := by decide +kernel
theorem dX5_copyFrom_43 : decode cX5_copyFrom 43 = .ok (.invokestatic 64, 3) := by decide +kernel
theorem dX5_copyFrom_46 : decode cX5_copyFrom 46 = .ok (.aload_n 1, 1) := by decide +kernel
theorem dX5_copyFrom_47 : decode cX5_copyFrom 47 = .ok (.getfield 15, 3) := by decide +kernel
theorem dX5_copyFrom_50 : decode cX5_copyFrom 50 = .ok (.iconst 0, 1) := by decide +kernel
theorem dX5_copyFrom_51 : decode cX5_copyFrom 51 = .ok (.aload_n 0, 1) := by decide +kernel
theorem dX5_copyFrom_52 : decode cX5_copyFrom 52 = .ok (.getfield 15, 3) := by decide +kernel
theorem dX5_copyFrom_55 : decode cX5_copyFrom 55 = .ok (.iconst 0, 1) := by decide +kernel
theorem dX5_copyFrom_56 : decode cX5_copyFrom 56 = .ok (.iconst 4, 1) := by decide +kernel
theorem dX5_copyFrom_57 : decode cX5_copyFrom 57 = .ok (.invokestatic 64, 3) := by decide +kernel
theorem dX5_copyFrom_60 : decode cX5_copyFrom 60 = .ok (.aload_n 1, 1) := by decide +kernel
theorem dX5_copyFrom_61 : decode cX5_copyFrom 61 = .ok (.getfield 18, 3) := by decide +kernel
theorem dX5_copyFrom_64 : decode cX5_copyFrom 64 = .ok (.iconst 0, 1) := by decide +kernel
theorem dX5_copyFrom_65 : decode cX5_copyFrom 65 = .ok (.aload_n 0, 1) := by decide +kernel
theorem dX5_copyFrom_66 : decode cX5_copyFrom 66 = .ok (.getfield 18, 3) := by decide +kernel
theorem dX5_copyFrom_69 : decode cX5_copyFrom 69 = .ok (.iconst 0, 1) := by decide +kernel
theorem dX5_copyFrom_70 : decode cX5_copyFrom 70 = .ok (.bipush 12, 2) := by decide +kernel
theorem dX5_copyFrom_72 : decode cX5_copyFrom 72 = .ok (.invokestatic 64, 3) := by decide +kernel
theorem dX5_copyFrom_75 : decode cX5_copyFrom 75 = .ok (.return_, 1) := by decide +kernel
theorem dX5_readFrom_0 : decode cX5_readFrom 0 = .ok (.aload_n 0, 1) := by decide +kernel
theorem dX5_readFrom_1 : decode cX5_readFrom 1 = .ok (.aload_n 2, 1) := by decide +kernel
theorem dX5_readFrom_2 : decode cX5_readFrom 2 = .ok (.invokevirtual 74, 3) := by decide +kernel
theorem dX5_readFrom_5 : decode cX5_readFrom 5 = .ok (.aload_n 0, 1) := by decide +kernel
theorem dX5_readFrom_6 : decode cX5_readFrom 6 = .ok (.iconst 0, 1) := by decide +kernel
theorem dX5_readFrom_7 : decode cX5_readFrom 7 = .ok (.putfield 38, 3) := by decide +kernel
theorem dX5_readFrom_10 : decode cX5_readFrom 10 = .ok (.aload_n 0, 1) := by decide +kernel
theorem dX5_readFrom_11 : decode cX5_readFrom 11 = .ok (.iconst 0, 1) := by decide +kernel
theorem dX5_readFrom_12 : decode cX5_readFrom 12 = .ok (.putfield 41, 3) := by decide +kernel
theorem dX5_readFrom_15 : decode cX5_readFrom 15 = .ok (.aload_n 0, 1) := by decide +kernel
theorem dX5_readFrom_16 : decode cX5_readFrom 16 = .ok (.iconst 0, 1) := by decide +kernel
theorem dX5_readFrom_17 : decode cX5_readFrom 17 = .ok (.putfield 44, 3) := by decide +kernel
theorem dX5_readFrom_20 : decode cX5_readFrom 20 = .ok (.aload_n 0, 1) := by decide +kernel
theorem dX5_readFrom_21 : decode cX5_readFrom 21 = .ok (.iconst 0, 1) := by decide +kernel
theorem dX5_readFrom_22 : decode cX5_readFrom 22 = .ok (.putfield 35, 3) := by decide +kernel
theorem dX5_readFrom_25 : decode cX5_readFrom 25 = .ok (.aload_n 0, 1) := by decide +kernel
theorem dX5_readFrom_26 : decode cX5_readFrom 26 = .ok (.getfield 35, 3) := by decide +kernel
theorem dX5_readFrom_29 : decode cX5_readFrom 29 = .ok (.sipush 400, 3) := by decide +kernel
theorem dX5_readFrom_32 : decode cX5_readFrom 32 = .ok (.if_icmp .ge 43, 3) := by decide +kernel
theorem dX5_readFrom_35 : decode cX5_readFrom 35 = .ok (.aload_n 1, 1) := by decide +kernel
theorem dX5_readFrom_36 : decode cX5_readFrom 36 = .ok (.getfield 78, 3) := by decide +kernel
theorem dX5_readFrom_39 : decode cX5_readFrom 39 = .ok (.ifCond .eq 36, 3) := by decide +kernel
theorem dX5_readFrom_42 : decode cX5_readFrom 42 = .ok (.aload_n 0, 1) := by decide +kernel
theorem dX5_readFrom_43 : decode cX5_readFrom 43 = .ok (.aload_n 1, 1) := by decide +kernel
theorem dX5_readFrom_44 : decode cX5_readFrom 44 = .ok (.aload_n 2, 1) := by decide +kernel
theorem dX5_readFrom_45 : decode cX5_readFrom 45 = .ok (.invokevirtual 83, 3) := by decide +kernel
theorem dX5_readFrom_48 : decode cX5_readFrom 48 = .ok (.ifCond .eq 12, 3) := by decide +kernel
theorem dX5_readFrom_51 : decode cX5_readFrom 51 = .ok (.aload_n 1, 1) := by decide +kernel
theorem dX5_readFrom_52 : decode cX5_readFrom 52 = .ok (.bipush 59, 2) := by decide +kernel
theorem dX5_readFrom_54 : decode cX5_readFrom 54 = .ok (.invokevirtual 87, 3) := by decide +kernel
theorem dX5_readFrom_57 : decode cX5_readFrom 57 = .ok (.ifCond .ne 5, 3) := by decide +kernel
theorem dX5_readFrom_60 : decode cX5_readFrom 60 = .ok (.iconst 0, 1) := by decide +kernel
theorem dX5_readFrom_61 : decode cX5_readFrom 61 = .ok (.ireturn, 1) := by decide +kernel
theorem dX5_readFrom_62 : decode cX5_readFrom 62 = .ok (.aload_n 0, 1) := by decide +kernel
theorem dX5_readFrom_63 : decode cX5_readFrom 63 = .ok (.dup, 1) := by decide +kernel
theorem dX5_readFrom_64 : decode cX5_readFrom 64 = .ok (.getfield 35, 3) := by decide +kernel
theorem dX5_readFrom_67 : decode cX5_readFrom 67 = .ok (.iconst 1, 1) := by decide +kernel
theorem dX5_readFrom_68 : decode cX5_readFrom 68 = .ok (.iadd, 1) := by decide +kernel
theorem dX5_readFrom_69 : decode cX5_readFrom 69 = .ok (.putfield 35, 3) := by decide +kernel
theorem dX5_readFrom_72 : decode cX5_readFrom 72 = .ok (.goto (-47), 3) := by decide +kernel
theorem dX5_readFrom_75 : decode cX5_readFrom 75 = .ok (.iconst 1, 1) := by decide +kernel
theorem dX5_readFrom_76 : decode cX5_readFrom 76 = .ok (.ireturn, 1) := by decide +kernel
theorem dX6_init_0 : decode cX6_init 0 = .ok (.aload_n 0, 1) := by decide +kernel
theorem dX6_init_1 : decode cX6_init 1 = .ok (.invokespecial 3, 3) := by decide +kernel
theorem dX6_init_4 : decode cX6_init 4 = .ok (.aload_n 0, 1) := by decide +kernel
theorem dX6_init_5 : decode cX6_init 5 = .ok (.sipush 940, 3) := by decide +kernel
theorem dX6_init_8 : decode cX6_init 8 = .ok (.newarray .byte, 2) := by decide +kernel
theorem dX6_init_10 : decode cX6_init 10 = .ok (.putfield 11, 3) := by decide +kernel
theorem dX6_init_13 : decode cX6_init 13 = .ok (.aload_n 0, 1) := by decide +kernel
theorem dX6_init_14 : decode cX6_init 14 = .ok (.iconst 0, 1) := by decide +kernel
theorem dX6_init_15 : decode cX6_init 15 = .ok (.putfield 15, 3) := by decide +kernel
theorem dX6_init_18 : decode cX6_init 18 = .ok (.aload_n 0, 1) := by decide +kernel
theorem dX6_init_19 : decode cX6_init 19 = .ok (.iconst 0, 1) := by decide +kernel
theorem dX6_init_20 : decode cX6_init 20 = .ok (.putfield 19, 3) := by decide +kernel
theorem dX6_init_23 : decode cX6_init 23 = .ok (.aload_n 0, 1) := by decide +kernel
theorem dX6_init_24 : decode cX6_init 24 = .ok (.iconst 0, 1) := by decide +kernel
theorem dX6_init_25 : decode cX6_init 25 = .ok (.putfield 22, 3) := by decide +kernel
theorem dX6_init_28 : decode cX6_init 28 = .ok (.aload_n 0, 1) := by decide +kernel
theorem dX6_init_29 : decode cX6_init 29 = .ok (.iconst 0, 1) := by decide +kernel
theorem dX6_init_30 : decode cX6_init 30 = .ok (.putfield 25, 3) := by decide +kernel
theorem dX6_init_33 : decode cX6_init 33 = .ok (.aload_n 0, 1) := by decide +kernel
theorem dX6_init_34 : decode cX6_init 34 = .ok (.lconst 0, 1) := by decide +kernel
theorem dX6_init_35 : decode cX6_init 35 = .ok (.putfield 28, 3) := by decide +kernel
theorem dX6_init_38 : decode cX6_init 38 = .ok (.aload_n 0, 1) := by decide +kernel
theorem dX6_init_39 : decode cX6_init 39 = .ok (.iconst 0, 1) := by decide +kernel
theorem dX6_init_40 : decode cX6_init 40 = .ok (.putfield 32, 3) := by decide +kernel
theorem dX6_init_43 : decode cX6_init 43 = .ok (.aload_n 0, 1) := by decide +kernel
theorem dX6_init_44 : decode cX6_init 44 = .ok (.iconst 0, 1) := by decide +kernel
theorem dX6_init_45 : decode cX6_init 45 = .ok (.putfield 35, 3) := by decide +kernel
theorem dX6_init_48 : decode cX6_init 48 = .ok (.aload_n 0, 1) := by decide +kernel
theorem dX6_init_49 : decode cX6_init 49 = .ok (.iconst 0, 1) := by decide +kernel
theorem dX6_init_50 : decode cX6_init 50 = .ok (.putfield 38, 3) := by decide +kernel
theorem dX6_init_53 : decode cX6_init 53 = .ok (.aload_n 0, 1) := by decide +kernel
theorem dX6_init_54 : decode cX6_init 54 = .ok (.bipush 23, 2) := by decide +kernel
theorem dX6_init_56 : decode cX6_init 56 = .ok (.newarray .long, 2) := by decide +kernel
theorem dX6_init_58 : decode cX6_init 58 = .ok (.putfield 41, 3) := by decide +kernel
theorem dX6_init_61 : decode cX6_init 61 = .ok (.aload_n 0, 1) := by decide +kernel
theorem dX6_init_62 : decode cX6_init 62 = .ok (.iconst 0, 1) := by decide +kernel
theorem dX6_init_63 : decode cX6_init 63 = .ok (.putfield 45, 3) := by decide +kernel
theorem dX6_init_66 : decode cX6_init 66 = .ok (.aload_n 0, 1) := by decide +kernel
theorem dX6_init_67 : decode cX6_init 67 = .ok (.iconst 0, 1) := by decide +kernel
theorem dX6_init_68 : decode cX6_init 68 = .ok (.putfield 48, 3) := by decide +kernel
theorem dX6_init_71 : decode cX6_init 71 = .ok (.iconst 0, 1) := by decide +kernel
theorem dX6_init_72 : decode cX6_init 72 = .ok (.istore_n 1, 1) := by decide +kernel
theorem dX6_init_73 : decode cX6_init 73 = .ok (.iload_n 1, 1) := by decide +kernel
theorem dX6_init_74 : decode cX6_init 74 = .ok (.ldc 51, 2) := by decide +kernel
theorem dX6_init_76 : decode cX6_init 76 = .ok (.invokevirtual 53, 3) := by decide +kernel
theorem dX6_init_79 : decode cX6_init 79 = .ok (.if_icmp .ge 58, 3) := by decide +kernel
theorem dX6_init_82 : decode cX6_init 82 = .ok (.ldc 51, 2) := by decide +kernel
theorem dX6_init_84 : decode cX6_init 84 = .ok (.iload_n 1, 1) := by decide +kernel
theorem dX6_init_85 : decode cX6_init 85 = .ok (.invokevirtual 58, 3) := by decide +kernel
theorem dX6_init_88 : decode cX6_init 88 = .ok (.istore_n 2, 1) := by decide +kernel
theorem dX6_init_89 : decode cX6_init 89 = .ok (.iload_n 1, 1) := by decide +kernel
theorem dX6_init_90 : decode cX6_init 90 = .ok (.bipush 7, 2) := by decide +kernel
theorem dX6_init_92 : decode cX6_init 92 = .ok (.idiv, 1) := by decide +kernel
theorem dX6_init_93 : decode cX6_init 93 = .ok (.istore_n 3, 1) := by decide +kernel
theorem dX6_init_94 : decode cX6_init 94 = .ok (.iload_n 2, 1) := by decide +kernel
theorem dX6_init_95 : decode cX6_init 95 = .ok (.bipush 32, 2) := by decide +kernel
theorem dX6_init_97 : decode cX6_init 97 = .ok (.if_icmp .eq 34, 3) := by decide +kernel
theorem dX6_init_100 : decode cX6_init 100 = .ok (.iload_n 3, 1) := by decide +kernel
theorem dX6_init_101 : decode cX6_init 101 = .ok (.bipush 23, 2) := by decide +kernel
theorem dX6_init_103 : decode cX6_init 103 = .ok (.if_icmp .ge 28, 3) := by decide +kernel
theorem dX6_init_106 : decode cX6_init 106 = .ok (.aload_n 0, 1) := by decide +kernel
theorem dX6_init_107 : decode cX6_init 107 = .ok (.getfield 41, 3) := by decide +kernel
theorem dX6_init_110 : decode cX6_init 110 = .ok (.iload_n 3, 1) := by decide +kernel
theorem dX6_init_111 : decode cX6_init 111 = .ok (.aload_n 0, 1) := by decide +kernel
theorem dX6_init_112 : decode cX6_init 112 = .ok (.getfield 41, 3) := by decide +kernel
theorem dX6_init_115 : decode cX6_init 115 = .ok (.iload_n 3, 1) := by decide +kernel
theorem dX6_init_116 : decode cX6_init 116 = .ok (.laload, 1) := by decide +kernel
theorem dX6_init_117 : decode cX6_init 117 = .ok (.ldc2_w 62, 3) := by decide +kernel
theorem dX6_init_120 : decode cX6_init 120 = .ok (.lmul, 1) := by decide +kernel
theorem dX6_init_121 : decode cX6_init 121 = .ok (.iload_n 2, 1) := by decide +kernel
theorem dX6_init_122 : decode cX6_init 122 = .ok (.i2l, 1) := by decide +kernel
theorem dX6_init_123 : decode cX6_init 123 = .ok (.ladd, 1) := by decide +kernel
theorem dX6_init_124 : decode cX6_init 124 = .ok (.ldc2_w 64, 3) := by decide +kernel
theorem dX6_init_127 : decode cX6_init 127 = .ok (.lsub, 1) := by decide +kernel
theorem dX6_init_128 : decode cX6_init 128 = .ok (.lconst 1, 1) := by decide +kernel
theorem dX6_init_129 : decode cX6_init 129 = .ok (.ladd, 1) := by decide +kernel
theorem dX6_init_130 : decode cX6_init 130 = .ok (.lastore, 1) := by decide +kernel
theorem dX6_init_131 : decode cX6_init 131 = .ok (.iinc 1 1, 3) := by decide +kernel
theorem dX6_init_134 : decode cX6_init 134 = .ok (.goto (-61), 3) := by decide +kernel
theorem dX6_init_137 : decode cX6_init 137 = .ok (.return_, 1) := by decide +kernel
theorem dX6_hasRoom_0 : decode cX6_hasRoom 0 = .ok (.aload_n 0, 1) := by decide +kernel
theorem dX6_hasRoom_1 : decode cX6_hasRoom 1 = .ok (.getfield 15, 3) := by decide +kernel
theorem dX6_hasRoom_4 : decode cX6_hasRoom 4 = .ok (.bipush 20, 2) := by decide +kernel
theorem dX6_hasRoom_6 : decode cX6_hasRoom 6 = .ok (.iadd, 1) := by decide +kernel
theorem dX6_hasRoom_7 : decode cX6_hasRoom 7 = .ok (.sipush 940, 3) := by decide +kernel
theorem dX6_hasRoom_10 : decode cX6_hasRoom 10 = .ok (.if_icmp .gt 7, 3) := by decide +kernel
theorem dX6_hasRoom_13 : decode cX6_hasRoom 13 = .ok (.iconst 1, 1) := by decide +kernel
theorem dX6_hasRoom_14 : decode cX6_hasRoom 14 = .ok (.goto 4, 3) := by decide +kernel
theorem dX6_hasRoom_17 : decode cX6_hasRoom 17 = .ok (.iconst 0, 1) := by decide +kernel
theorem dX6_hasRoom_18 : decode cX6_hasRoom 18 = .ok (.ireturn, 1) := by decide +kernel
theorem dX6_append_0 : decode cX6_append 0 = .ok (.bipush 24, 2) := by decide +kernel
theorem dX6_append_2 : decode cX6_append 2 = .ok (.istore_n 2, 1) := by decide +kernel
theorem dX6_append_3 : decode cX6_append 3 = .ok (.iload_n 2, 1) := by decide +kernel
theorem dX6_append_4 : decode cX6_append 4 = .ok (.ifCond .lt 42, 3) := by decide +kernel
theorem dX6_append_7 : decode cX6_append 7 = .ok (.aload_n 0, 1) := by decide +kernel
theorem dX6_append_8 : decode cX6_append 8 = .ok (.getfield 15, 3) := by decide +kernel
theorem dX6_append_11 : decode cX6_append 11 = .ok (.sipush 940, 3) := by decide +kernel
theorem dX6_append_14 : decode cX6_append 14 = .ok (.if_icmp .ge 32, 3) := by decide +kernel
theorem dX6_append_17 : decode cX6_append 17 = .ok (.aload_n 0, 1) := by decide +kernel
theorem dX6_append_18 : decode cX6_append 18 = .ok (.getfield 11, 3) := by decide +kernel
theorem dX6_append_21 : decode cX6_append 21 = .ok (.aload_n 0, 1) := by decide +kernel
theorem dX6_append_22 : decode cX6_append 22 = .ok (.getfield 15, 3) := by decide +kernel
theorem dX6_append_25 : decode cX6_append 25 = .ok (.iload_n 1, 1) := by decide +kernel
theorem dX6_append_26 : decode cX6_append 26 = .ok (.iload_n 2, 1) := by decide +kernel
theorem dX6_append_27 : decode cX6_append 27 = .ok (.iushr, 1) := by decide +kernel
theorem dX6_append_28 : decode cX6_append 28 = .ok (.i2b, 1) := by decide +kernel
theorem dX6_append_29 : decode cX6_append 29 = .ok (.bastore, 1) := by decide +kernel
theorem dX6_append_30 : decode cX6_append 30 = .ok (.aload_n 0, 1) := by decide +kernel
theorem dX6_append_31 : decode cX6_append 31 = .ok (.dup, 1) := by decide +kernel
theorem dX6_append_32 : decode cX6_append 32 = .ok (.getfield 15, 3) := by decide +kernel
theorem dX6_append_35 : decode cX6_append 35 = .ok (.iconst 1, 1) := by decide +kernel
theorem dX6_append_36 : decode cX6_append 36 = .ok (.iadd, 1) := by decide +kernel
theorem dX6_append_37 : decode cX6_append 37 = .ok (.putfield 15, 3) := by decide +kernel
theorem dX6_append_40 : decode cX6_append 40 = .ok (.iinc 2 (-8), 3) := by decide +kernel
theorem dX6_append_43 : decode cX6_append 43 = .ok (.goto (-40), 3) := by decide +kernel
theorem dX6_append_46 : decode cX6_append 46 = .ok (.return_, 1) := by decide +kernel
theorem dX6_open_0 : decode cX6_open 0 = .ok (.aload_n 0, 1) := by decide +kernel
theorem dX6_open_1 : decode cX6_open 1 = .ok (.iload_n 1, 1) := by decide +kernel
theorem dX6_open_2 : decode cX6_open 2 = .ok (.putfield 48, 3) := by decide +kernel
theorem dX6_open_5 : decode cX6_open 5 = .ok (.aload_n 0, 1) := by decide +kernel
theorem dX6_open_6 : decode cX6_open 6 = .ok (.iconst 0, 1) := by decide +kernel
theorem dX6_open_7 : decode cX6_open 7 = .ok (.putfield 45, 3) := by decide +kernel
theorem dX6_open_10 : decode cX6_open 10 = .ok (.aload_n 0, 1) := by decide +kernel
theorem dX6_open_11 : decode cX6_open 11 = .ok (.invokevirtual 66, 3) := by decide +kernel
theorem dX6_open_14 : decode cX6_open 14 = .ok (.return_, 1) := by decide +kernel
theorem dX6_advance_0 : decode cX6_advance 0 = .ok (.aload_n 0, 1) := by decide +kernel
theorem dX6_advance_1 : decode cX6_advance 1 = .ok (.getfield 45, 3) := by decide +kernel
theorem dX6_advance_4 : decode cX6_advance 4 = .ok (.aload_n 0, 1) := by decide +kernel
theorem dX6_advance_5 : decode cX6_advance 5 = .ok (.getfield 15, 3) := by decide +kernel
theorem dX6_advance_8 : decode cX6_advance 8 = .ok (.if_icmp .ge 44, 3) := by decide +kernel
theorem dX6_advance_11 : decode cX6_advance 11 = .ok (.aload_n 0, 1) := by decide +kernel
theorem dX6_advance_12 : decode cX6_advance 12 = .ok (.getfield 11, 3) := by decide +kernel
theorem dX6_advance_15 : decode cX6_advance 15 = .ok (.aload_n 0, 1) := by decide +kernel
theorem dX6_advance_16 : decode cX6_advance 16 = .ok (.getfield 45, 3) := by decide +kernel
theorem dX6_advance_19 : decode cX6_advance 19 = .ok (.baload, 1) := by decide +kernel
theorem dX6_advance_20 : decode cX6_advance 20 = .ok (.bipush 32, 2) := by decide +kernel
theorem dX6_advance_22 : decode cX6_advance 22 = .ok (.if_icmp .eq 17, 3) := by decide +kernel
theorem dX6_advance_25 : decode cX6_advance 25 = .ok (.aload_n 0, 1) := by decide +kernel
theorem dX6_advance_26 : decode cX6_advance 26 = .ok (.getfield 11, 3) := by decide +kernel
theorem dX6_advance_29 : decode cX6_advance 29 = .ok (.aload_n 0, 1) := by decide +kernel
theorem dX6_advance_30 : decode cX6_advance 30 = .ok (.getfield 45, 3) := by decide +kernel
theorem dX6_advance_33 : decode cX6_advance 33 = .ok (.baload, 1) := by decide +kernel
theorem dX6_advance_34 : decode cX6_advance 34 = .ok (.bipush 10, 2) := by decide +kernel
theorem dX6_advance_36 : decode cX6_advance 36 = .ok (.if_icmp .ne 16, 3) := by decide +kernel
theorem dX6_advance_39 : decode cX6_advance 39 = .ok (.aload_n 0, 1) := by decide +kernel
theorem dX6_advance_40 : decode cX6_advance 40 = .ok (.dup, 1) := by decide +kernel
theorem dX6_advance_41 : decode cX6_advance 41 = .ok (.getfield 45, 3) := by decide +kernel
theorem dX6_advance_44 : decode cX6_advance 44 = .ok (.iconst 1, 1) := by decide +kernel
theorem dX6_advance_45 : decode cX6_advance 45 = .ok (.iadd, 1) := by decide +kernel
theorem dX6_advance_46 : decode cX6_advance 46 = .ok (.putfield 45, 3) := by decide +kernel
theorem dX6_advance_49 : decode cX6_advance 49 = .ok (.goto (-49), 3) := by decide +kernel
theorem dX6_advance_52 : decode cX6_advance 52 = .ok (.aload_n 0, 1) := by decide +kernel
theorem dX6_advance_53 : decode cX6_advance 53 = .ok (.aload_n 0, 1) := by decide +kernel
theorem dX6_advance_54 : decode cX6_advance 54 = .ok (.getfield 45, 3) := by decide +kernel
theorem dX6_advance_57 : decode cX6_advance 57 = .ok (.putfield 22, 3) := by decide +kernel
theorem dX6_advance_60 : decode cX6_advance 60 = .ok (.aload_n 0, 1) := by decide +kernel
theorem dX6_advance_61 : decode cX6_advance 61 = .ok (.getfield 15, 3) := by decide +kernel
theorem dX6_advance_64 : decode cX6_advance 64 = .ok (.aload_n 0, 1) := by decide +kernel
theorem dX6_advance_65 : decode cX6_advance 65 = .ok (.getfield 48, 3) := by decide +kernel
theorem dX6_advance_68 : decode cX6_advance 68 = .ok (.if_icmp .le 30, 3) := by decide +kernel
theorem dX6_advance_71 : decode cX6_advance 71 = .ok (.aload_n 0, 1) := by decide +kernel
theorem dX6_advance_72 : decode cX6_advance 72 = .ok (.getfield 45, 3) := by decide +kernel
theorem dX6_advance_75 : decode cX6_advance 75 = .ok (.aload_n 0, 1) := by decide +kernel
theorem dX6_advance_76 : decode cX6_advance 76 = .ok (.getfield 48, 3) := by decide +kernel
theorem dX6_advance_79 : decode cX6_advance 79 = .ok (.if_icmp .lt 19, 3) := by decide +kernel
theorem dX6_advance_82 : decode cX6_advance 82 = .ok (.aload_n 0, 1) := by decide +kernel
theorem dX6_advance_83 : decode cX6_advance 83 = .ok (.aload_n 0, 1) := by decide +kernel
theorem dX6_advance_84 : decode cX6_advance 84 = .ok (.getfield 48, 3) := by decide +kernel
theorem dX6_advance_87 : decode cX6_advance 87 = .ok (.putfield 22, 3) := by decide +kernel
theorem dX6_advance_90 : decode cX6_advance 90 = .ok (.aload_n 0, 1) := by decide +kernel
theorem dX6_advance_91 : decode cX6_advance 91 = .ok (.iconst 1, 1) := by decide +kernel
theorem dX6_advance_92 : decode cX6_advance 92 = .ok (.putfield 19, 3) := by decide +kernel
theorem dX6_advance_95 : decode cX6_advance 95 = .ok (.goto 94, 3) := by decide +kernel
theorem dX6_advance_98 : decode cX6_advance 98 = .ok (.aload_n 0, 1) := by decide +kernel
theorem dX6_advance_99 : decode cX6_advance 99 = .ok (.getfield 45, 3) := by decide +kernel
theorem dX6_advance_102 : decode cX6_advance 102 = .ok (.aload_n 0, 1) := by decide +kernel
theorem dX6_advance_103 : decode cX6_advance 103 = .ok (.getfield 15, 3) := by decide +kernel
theorem dX6_advance_106 : decode cX6_advance 106 = .ok (.if_icmp .lt 11, 3) := by decide +kernel
theorem dX6_advance_109 : decode cX6_advance 109 = .ok (.aload_n 0, 1) := by decide +kernel
theorem dX6_advance_110 : decode cX6_advance 110 = .ok (.iconst 0, 1) := by decide +kernel
theorem dX6_advance_111 : decode cX6_advance 111 = .ok (.putfield 19, 3) := by decide +kernel
theorem dX6_advance_114 : decode cX6_advance 114 = .ok (.goto 75, 3) := by decide +kernel
theorem dX6_advance_117 : decode cX6_advance 117 = .ok (.aload_n 0, 1) := by decide +kernel
theorem dX6_advance_118 : decode cX6_advance 118 = .ok (.getfield 11, 3) := by decide +kernel
theorem dX6_advance_121 : decode cX6_advance 121 = .ok (.aload_n 0, 1) := by decide +kernel
theorem dX6_advance_122 : decode cX6_advance 122 = .ok (.getfield 45, 3) := by decide +kernel
theorem dX6_advance_125 : decode cX6_advance 125 = .ok (.baload, 1) := by decide +kernel
theorem dX6_advance_126 : decode cX6_advance 126 = .ok (.invokestatic 69, 3) := by decide +kernel
theorem dX6_advance_129 : decode cX6_advance 129 = .ok (.ifCond .eq 29, 3) := by decide +kernel
theorem dX6_advance_132 : decode cX6_advance 132 = .ok (.aload_n 0, 1) := by decide +kernel
theorem dX6_advance_133 : decode cX6_advance 133 = .ok (.aload_n 0, 1) := by decide +kernel
theorem dX6_advance_134 : decode cX6_advance 134 = .ok (.getfield 11, 3) := by decide +kernel
theorem dX6_advance_137 : decode cX6_advance 137 = .ok (.aload_n 0, 1) := by decide +kernel
theorem dX6_advance_138 : decode cX6_advance 138 = .ok (.getfield 45, 3) := by decide +kernel
theorem dX6_advance_141 : decode cX6_advance 141 = .ok (.baload, 1) := by decide +kernel
theorem dX6_advance_142 : decode cX6_advance 142 = .ok (.putfield 19, 3) := by decide +kernel
theorem dX6_advance_145 : decode cX6_advance 145 = .ok (.aload_n 0, 1) := by decide +kernel
theorem dX6_advance_146 : decode cX6_advance 146 = .ok (.dup, 1) := by decide +kernel
theorem dX6_advance_147 : decode cX6_advance 147 = .ok (.getfield 45, 3) := by decide +kernel
theorem dX6_advance_150 : decode cX6_advance 150 = .ok (.iconst 1, 1) := by decide +kernel
theorem dX6_advance_151 : decode cX6_advance 151 = .ok (.iadd, 1) := by decide +kernel
theorem dX6_advance_152 : decode cX6_advance 152 = .ok (.putfield 45, 3) := by decide +kernel
theorem dX6_advance_155 : decode cX6_advance 155 = .ok (.goto 34, 3) := by decide +kernel
theorem dX6_advance_158 : decode cX6_advance 158 = .ok (.aload_n 0, 1) := by decide +kernel
theorem dX6_advance_159 : decode cX6_advance 159 = .ok (.invokevirtual 73, 3) := by decide +kernel
theorem dX6_advance_162 : decode cX6_advance 162 = .ok (.aload_n 0, 1) := by decide +kernel
theorem dX6_advance_163 : decode cX6_advance 163 = .ok (.aload_n 0, 1) := by decide +kernel
theorem dX6_advance_164 : decode cX6_advance 164 = .ok (.getfield 19, 3) := by decide +kernel
theorem dX6_advance_167 : decode cX6_advance 167 = .ok (.iconst 2, 1) := by decide +kernel
theorem dX6_advance_168 : decode cX6_advance 168 = .ok (.if_icmp .ne 14, 3) := by decide +kernel
theorem dX6_advance_171 : decode cX6_advance 171 = .ok (.aload_n 0, 1) := by decide +kernel
theorem dX6_advance_172 : decode cX6_advance 172 = .ok (.aload_n 0, 1) := by decide +kernel
theorem dX6_advance_173 : decode cX6_advance 173 = .ok (.getfield 28, 3) := by decide +kernel
theorem dX6_advance_176 : decode cX6_advance 176 = .ok (.invokevirtual 76, 3) := by decide +kernel
theorem dX6_advance_179 : decode cX6_advance 179 = .ok (.goto 7, 3) := by decide +kernel
theorem dX6_advance_182 : decode cX6_advance 182 = .ok (.aload_n 0, 1) := by decide +kernel
theorem dX6_advance_183 : decode cX6_advance 183 = .ok (.getfield 25, 3) := by decide +kernel
theorem dX6_advance_186 : decode cX6_advance 186 = .ok (.putfield 25, 3) := by decide +kernel
theorem dX6_advance_189 : decode cX6_advance 189 = .ok (.return_, 1) := by decide +kernel
theorem dX6_fail_0 : decode cX6_fail 0 = .ok (.aload_n 0, 1) := by decide +kernel
theorem dX6_fail_1 : decode cX6_fail 1 = .ok (.iload_n 1, 1) := by decide +kernel
theorem dX6_fail_2 : decode cX6_fail 2 = .ok (.putfield 35, 3) := by decide +kernel
theorem dX6_fail_5 : decode cX6_fail 5 = .ok (.aload_n 0, 1) := by decide +kernel
theorem dX6_fail_6 : decode cX6_fail 6 = .ok (.aload_n 0, 1) := by decide +kernel
theorem dX6_fail_7 : decode cX6_fail 7 = .ok (.getfield 22, 3) := by decide +kernel
theorem dX6_fail_10 : decode cX6_fail 10 = .ok (.putfield 38, 3) := by decide +kernel
theorem dX6_fail_13 : decode cX6_fail 13 = .ok (.iconst 0, 1) := by decide +kernel
theorem dX6_fail_14 : decode cX6_fail 14 = .ok (.ireturn, 1) := by decide +kernel
theorem dX6_wordHere_0 : decode cX6_wordHere 0 = .ok (.aload_n 0, 1) := by decide +kernel
theorem dX6_wordHere_1 : decode cX6_wordHere 1 = .ok (.getfield 19, 3) := by decide +kernel
theorem dX6_wordHere_4 : decode cX6_wordHere 4 = .ok (.iconst 2, 1) := by decide +kernel
theorem dX6_wordHere_5 : decode cX6_wordHere 5 = .ok (.if_icmp .ne 10, 3) := by decide +kernel
theorem dX6_wordHere_8 : decode cX6_wordHere 8 = .ok (.aload_n 0, 1) := by decide +kernel
theorem dX6_wordHere_9 : decode cX6_wordHere 9 = .ok (.getfield 25, 3) := by decide +kernel
theorem dX6_wordHere_12 : decode cX6_wordHere 12 = .ok (.goto 4, 3) := by decide +kernel
theorem dX6_wordHere_15 : decode cX6_wordHere 15 = .ok (.iconst (-1), 1) := by decide +kernel
theorem dX6_wordHere_16 : decode cX6_wordHere 16 = .ok (.ireturn, 1) := by decide +kernel
theorem dX7_init_0 : decode cX7_init 0 = .ok (.aload_n 0, 1) := by decide +kernel
theorem dX7_init_1 : decode cX7_init 1 = .ok (.invokespecial 3, 3) := by decide +kernel
theorem dX7_init_4 : decode cX7_init 4 = .ok (.aload_n 0, 1) := by decide +kernel
theorem dX7_init_5 : decode cX7_init 5 = .ok (.bipush 40, 2) := by decide +kernel
theorem dX7_init_7 : decode cX7_init 7 = .ok (.newarray .int, 2) := by decide +kernel
theorem dX7_init_9 : decode cX7_init 9 = .ok (.putfield 9, 3) := by decide +kernel
theorem dX7_init_12 : decode cX7_init 12 = .ok (.aload_n 0, 1) := by decide +kernel
theorem dX7_init_13 : decode cX7_init 13 = .ok (.iconst 4, 1) := by decide +kernel
theorem dX7_init_14 : decode cX7_init 14 = .ok (.newarray .int, 2) := by decide +kernel
theorem dX7_init_16 : decode cX7_init 16 = .ok (.putfield 15, 3) := by decide +kernel
theorem dX7_init_19 : decode cX7_init 19 = .ok (.aload_n 0, 1) := by decide +kernel
theorem dX7_init_20 : decode cX7_init 20 = .ok (.bipush 12, 2) := by decide +kernel
theorem dX7_init_22 : decode cX7_init 22 = .ok (.newarray .int, 2) := by decide +kernel
theorem dX7_init_24 : decode cX7_init 24 = .ok (.putfield 18, 3) := by decide +kernel
theorem dX7_init_27 : decode cX7_init 27 = .ok (.aload_n 0, 1) := by decide +kernel
theorem dX7_init_28 : decode cX7_init 28 = .ok (.iconst 0, 1) := by decide +kernel
theorem dX7_init_29 : decode cX7_init 29 = .ok (.putfield 21, 3) := by decide +kernel
theorem dX7_init_32 : decode cX7_init 32 = .ok (.aload_n 0, 1) := by decide +kernel
theorem dX7_init_33 : decode cX7_init 33 = .ok (.iconst 0, 1) := by decide +kernel
theorem dX7_init_34 : decode cX7_init 34 = .ok (.putfield 25, 3) := by decide +kernel
theorem dX7_init_37 : decode cX7_init 37 = .ok (.aload_n 0, 1) := by decide +kernel
theorem dX7_init_38 : decode cX7_init 38 = .ok (.iconst 0, 1) := by decide +kernel
theorem dX7_init_39 : decode cX7_init 39 = .ok (.putfield 28, 3) := by decide +kernel
theorem dX7_init_42 : decode cX7_init 42 = .ok (.aload_n 0, 1) := by decide +kernel
theorem dX7_init_43 : decode cX7_init 43 = .ok (.iconst 0, 1) := by decide +kernel
theorem dX7_init_44 : decode cX7_init 44 = .ok (.putfield 31, 3) := by decide +kernel
theorem dX7_init_47 : decode cX7_init 47 = .ok (.aload_n 0, 1) := by decide +kernel
theorem dX7_init_48 : decode cX7_init 48 = .ok (.iconst 0, 1) := by decide +kernel
theorem dX7_init_49 : decode cX7_init 49 = .ok (.putfield 34, 3) := by decide +kernel
theorem dX7_init_52 : decode cX7_init 52 = .ok (.aload_n 0, 1) := by decide +kernel
theorem dX7_init_53 : decode cX7_init 53 = .ok (.iconst (-1), 1) := by decide +kernel
theorem dX7_init_54 : decode cX7_init 54 = .ok (.putfield 37, 3) := by decide +kernel
theorem dX7_init_57 : decode cX7_init 57 = .ok (.aload_n 0, 1) := by decide +kernel
theorem dX7_init_58 : decode cX7_init 58 = .ok (.iconst 0, 1) := by decide +kernel
theorem dX7_init_59 : decode cX7_init 59 = .ok (.putfield 40, 3) := by decide +kernel
theorem dX7_init_62 : decode cX7_init 62 = .ok (.aload_n 0, 1) := by decide +kernel
theorem dX7_init_63 : decode cX7_init 63 = .ok (.iconst 0, 1) := by decide +kernel
theorem dX7_init_64 : decode cX7_init 64 = .ok (.putfield 43, 3) := by decide +kernel
theorem dX7_init_67 : decode cX7_init 67 = .ok (.aload_n 0, 1) := by decide +kernel
theorem dX7_init_68 : decode cX7_init 68 = .ok (.iconst (-1), 1) := by decide +kernel
theorem dX7_init_69 : decode cX7_init 69 = .ok (.putfield 46, 3) := by decide +kernel
theorem dX7_init_72 : decode cX7_init 72 = .ok (.aload_n 0, 1) := by decide +kernel
theorem dX7_init_73 : decode cX7_init 73 = .ok (.iconst 0, 1) := by decide +kernel
theorem dX7_init_74 : decode cX7_init 74 = .ok (.putfield 49, 3) := by decide +kernel
theorem dX7_init_77 : decode cX7_init 77 = .ok (.aload_n 0, 1) := by decide +kernel
theorem dX7_init_78 : decode cX7_init 78 = .ok (.iconst 0, 1) := by decide +kernel
theorem dX7_init_79 : decode cX7_init 79 = .ok (.putfield 52, 3) := by decide +kernel
theorem dX7_init_82 : decode cX7_init 82 = .ok (.aload_n 0, 1) := by decide +kernel
theorem dX7_init_83 : decode cX7_init 83 = .ok (.iconst 0, 1) := by decide +kernel
theorem dX7_init_84 : decode cX7_init 84 = .ok (.putfield 55, 3) := by decide +kernel
theorem dX7_init_87 : decode cX7_init 87 = .ok (.aload_n 0, 1) := by decide +kernel
theorem dX7_init_88 : decode cX7_init 88 = .ok (.iconst 0, 1) := by decide +kernel
theorem dX7_init_89 : decode cX7_init 89 = .ok (.putfield 59, 3) := by decide +kernel
theorem dX7_init_92 : decode cX7_init 92 = .ok (.aload_n 0, 1) := by decide +kernel
theorem dX7_init_93 : decode cX7_init 93 = .ok (.iconst (-1), 1) := by decide +kernel
theorem dX7_init_94 : decode cX7_init 94 = .ok (.putfield 62, 3) := by decide +kernel
theorem dX7_init_97 : decode cX7_init 97 = .ok (.aload_n 0, 1) := by decide +kernel
theorem dX7_init_98 : decode cX7_init 98 = .ok (.iconst 0, 1) := by decide +kernel
theorem dX7_init_99 : decode cX7_init 99 = .ok (.putfield 65, 3) := by decide +kernel
theorem dX7_init_102 : decode cX7_init 102 = .ok (.return_, 1) := by decide +kernel
theorem dX8_init_0 : decode cX8_init 0 = .ok (.aload_n 0, 1) := by decide +kernel
theorem dX8_init_1 : decode cX8_init 1 = .ok (.invokespecial 5, 3) := by decide +kernel
theorem dX8_init_4 : decode cX8_init 4 = .ok (.aload_n 0, 1) := by decide +kernel
theorem dX8_init_5 : decode cX8_init 5 = .ok (.bipush 40, 2) := by decide +kernel
theorem dX8_init_7 : decode cX8_init 7 = .ok (.newarray .int, 2) := by decide +kernel
theorem dX8_init_9 : decode cX8_init 9 = .ok (.putfield 11, 3) := by decide +kernel
theorem dX8_init_12 : decode cX8_init 12 = .ok (.aload_n 0, 1) := by decide +kernel
theorem dX8_init_13 : decode cX8_init 13 = .ok (.bipush 40, 2) := by decide +kernel
theorem dX8_init_15 : decode cX8_init 15 = .ok (.newarray .int, 2) := by decide +kernel
theorem dX8_init_17 : decode cX8_init 17 = .ok (.putfield 15, 3) := by decide +kernel
theorem dX8_init_20 : decode cX8_init 20 = .ok (.aload_n 0, 1) := by decide +kernel
theorem dX8_init_21 : decode cX8_init 21 = .ok (.bipush 40, 2) := by decide +kernel
theorem dX8_init_23 : decode cX8_init 23 = .ok (.newarray .int, 2) := by decide +kernel
theorem dX8_init_25 : decode cX8_init 25 = .ok (.putfield 18, 3) := by decide +kernel
theorem dX8_init_28 : decode cX8_init 28 = .ok (.aload_n 0, 1) := by decide +kernel
theorem dX8_init_29 : decode cX8_init 29 = .ok (.iconst 0, 1) := by decide +kernel
theorem dX8_init_30 : decode cX8_init 30 = .ok (.putfield 21, 3) := by decide +kernel
theorem dX8_init_33 : decode cX8_init 33 = .ok (.aload_n 0, 1) := by decide +kernel
theorem dX8_init_34 : decode cX8_init 34 = .ok (.iconst 0, 1) := by decide +kernel
theorem dX8_init_35 : decode cX8_init 35 = .ok (.putfield 25, 3) := by decide +kernel
theorem dX8_init_38 : decode cX8_init 38 = .ok (.return_, 1) := by decide +kernel
theorem dX8_readCond_0 : decode cX8_readCond 0 = .ok (.aload_n 0, 1) := by decide +kernel
theorem dX8_readCond_1 : decode cX8_readCond 1 = .ok (.aload_n 1, 1) := by decide +kernel
theorem dX8_readCond_2 : decode cX8_readCond 2 = .ok (.aload_n 2, 1) := by decide +kernel
theorem dX8_readCond_3 : decode cX8_readCond 3 = .ok (.iload_n 3, 1) := by decide +kernel
theorem dX8_readCond_4 : decode cX8_readCond 4 = .ok (.invokevirtual 28, 3) := by decide +kernel
theorem dX8_readCond_7 : decode cX8_readCond 7 = .ok (.ifCond .ne 5, 3) := by decide +kernel
theorem dX8_readCond_10 : decode cX8_readCond 10 = .ok (.iconst 0, 1) := by decide +kernel
theorem dX8_readCond_11 : decode cX8_readCond 11 = .ok (.ireturn, 1) := by decide +kernel
theorem dX8_readCond_12 : decode cX8_readCond 12 = .ok (.iconst 0, 1) := by decide +kernel
theorem dX8_readCond_13 : decode cX8_readCond 13 = .ok (.istore 4, 2) := by decide +kernel
theorem dX8_readCond_15 : decode cX8_readCond 15 = .ok (.iload 4, 2) := by decide +kernel
theorem dX8_readCond_17 : decode cX8_readCond 17 = .ok (.sipush 200, 3) := by decide +kernel
theorem dX8_readCond_20 : decode cX8_readCond 20 = .ok (.if_icmp .ge 43, 3) := by decide +kernel
theorem dX8_readCond_23 : decode cX8_readCond 23 = .ok (.aload_n 1, 1) := by decide +kernel
theorem dX8_readCond_24 : decode cX8_readCond 24 = .ok (.invokevirtual 32, 3) := by decide +kernel
theorem dX8_readCond_27 : decode cX8_readCond 27 = .ok (.bipush 14, 2) := by decide +kernel
theorem dX8_readCond_29 : decode cX8_readCond 29 = .ok (.if_icmp .ne 34, 3) := by decide +kernel
theorem dX8_readCond_32 : decode cX8_readCond 32 = .ok (.aload_n 1, 1) := by decide +kernel
theorem dX8_readCond_33 : decode cX8_readCond 33 = .ok (.invokevirtual 38, 3) := by decide +kernel
theorem dX8_readCond_36 : decode cX8_readCond 36 = .ok (.aload_n 0, 1) := by decide +kernel
theorem dX8_readCond_37 : decode cX8_readCond 37 = .ok (.aload_n 1, 1) := by decide +kernel
theorem dX8_readCond_38 : decode cX8_readCond 38 = .ok (.aload_n 2, 1) := by decide +kernel
theorem dX8_readCond_39 : decode cX8_readCond 39 = .ok (.iload_n 3, 1) := by decide +kernel
theorem dX8_readCond_40 : decode cX8_readCond 40 = .ok (.invokevirtual 28, 3) := by decide +kernel
theorem dX8_readCond_43 : decode cX8_readCond 43 = .ok (.ifCond .ne 5, 3) := by decide +kernel
theorem dX8_readCond_46 : decode cX8_readCond 46 = .ok (.iconst 0, 1) := by decide +kernel
theorem dX8_readCond_47 : decode cX8_readCond 47 = .ok (.ireturn, 1) := by decide +kernel
theorem dX8_readCond_48 : decode cX8_readCond 48 = .ok (.aload_n 0, 1) := by decide +kernel
theorem dX8_readCond_49 : decode cX8_readCond 49 = .ok (.bipush 14, 2) := by decide +kernel
theorem dX8_readCond_51 : decode cX8_readCond 51 = .ok (.iconst 0, 1) := by decide +kernel
theorem dX8_readCond_52 : decode cX8_readCond 52 = .ok (.iconst 0, 1) := by decide +kernel
theorem dX8_readCond_53 : decode cX8_readCond 53 = .ok (.invokevirtual 41, 3) := by decide +kernel
theorem dX8_readCond_56 : decode cX8_readCond 56 = .ok (.pop, 1) := by decide +kernel
theorem dX8_readCond_57 : decode cX8_readCond 57 = .ok (.iinc 4 1, 3) := by decide +kernel
theorem dX8_readCond_60 : decode cX8_readCond 60 = .ok (.goto (-45), 3) := by decide +kernel
theorem dX8_readCond_63 : decode cX8_readCond 63 = .ok (.iload_n 3, 1) := by decide +kernel
theorem dX8_readCond_64 : decode cX8_readCond 64 = .ok (.iconst 1, 1) := by decide +kernel
theorem dX8_readCond_65 : decode cX8_readCond 65 = .ok (.if_icmp .gt 18, 3) := by decide +kernel
theorem dX8_readCond_68 : decode cX8_readCond 68 = .ok (.aload_n 1, 1) := by decide +kernel
theorem dX8_readCond_69 : decode cX8_readCond 69 = .ok (.getfield 45, 3) := by decide +kernel
theorem dX8_readCond_72 : decode cX8_readCond 72 = .ok (.ifCond .eq 11, 3) := by decide +kernel
theorem dX8_readCond_75 : decode cX8_readCond 75 = .ok (.aload_n 1, 1) := by decide +kernel
theorem dX8_readCond_76 : decode cX8_readCond 76 = .ok (.iconst 1, 1) := by decide +kernel
theorem dX8_readCond_77 : decode cX8_readCond 77 = .ok (.invokevirtual 48, 3) := by decide +kernel
theorem dX8_readCond_80 : decode cX8_readCond 80 = .ok (.ifCond .eq 7, 3) := by decide +kernel
theorem dX8_readCond_83 : decode cX8_readCond 83 = .ok (.iconst 1, 1) := by decide +kernel
theorem dX8_readCond_84 : decode cX8_readCond 84 = .ok (.goto 4, 3) := by decide +kernel
theorem dX8_readCond_87 : decode cX8_readCond 87 = .ok (.iconst 0, 1) := by decide +kernel
theorem dX8_readCond_88 : decode cX8_readCond 88 = .ok (.ireturn, 1) := by decide +kernel
theorem dX8_readAll_0 : decode cX8_readAll 0 = .ok (.aload_n 0, 1) := by decide +kernel
theorem dX8_readAll_1 : decode cX8_readAll 1 = .ok (.aload_n 1, 1) := by decide +kernel
theorem dX8_readAll_2 : decode cX8_readAll 2 = .ok (.aload_n 2, 1) := by decide +kernel
theorem dX8_readAll_3 : decode cX8_readAll 3 = .ok (.iload_n 3, 1) := by decide +kernel
theorem dX8_readAll_4 : decode cX8_readAll 4 = .ok (.invokevirtual 52, 3) := by decide +kernel
theorem dX8_readAll_7 : decode cX8_readAll 7 = .ok (.ifCond .ne 5, 3) := by decide +kernel
theorem dX8_readAll_10 : decode cX8_readAll 10 = .ok (.iconst 0, 1) := by decide +kernel
theorem dX8_readAll_11 : decode cX8_readAll 11 = .ok (.ireturn, 1) := by decide +kernel
theorem dX8_readAll_12 : decode cX8_readAll 12 = .ok (.iconst 0, 1) := by decide +kernel
theorem dX8_readAll_13 : decode cX8_readAll 13 = .ok (.istore 4, 2) := by decide +kernel
theorem dX8_readAll_15 : decode cX8_readAll 15 = .ok (.iload 4, 2) := by decide +kernel
theorem dX8_readAll_17 : decode cX8_readAll 17 = .ok (.sipush 200, 3) := by decide +kernel
theorem dX8_readAll_20 : decode cX8_readAll 20 = .ok (.if_icmp .ge 43, 3) := by decide +kernel
theorem dX8_readAll_23 : decode cX8_readAll 23 = .ok (.aload_n 1, 1) := by decide +kernel
theorem dX8_readAll_24 : decode cX8_readAll 24 = .ok (.invokevirtual 32, 3) := by decide +kernel
theorem dX8_readAll_27 : decode cX8_readAll 27 = .ok (.bipush 15, 2) := by decide +kernel
theorem dX8_readAll_29 : decode cX8_readAll 29 = .ok (.if_icmp .ne 34, 3) := by decide +kernel
theorem dX8_readAll_32 : decode cX8_readAll 32 = .ok (.aload_n 1, 1) := by decide +kernel
theorem dX8_readAll_33 : decode cX8_readAll 33 = .ok (.invokevirtual 38, 3) := by decide +kernel
theorem dX8_readAll_36 : decode cX8_readAll 36 = .ok (.aload_n 0, 1) := by decide +kernel
theorem dX8_readAll_37 : decode cX8_readAll 37 = .ok (.aload_n 1, 1) := by decide +kernel
theorem dX8_readAll_38 : decode cX8_readAll 38 = .ok (.aload_n 2, 1) := by decide +kernel
theorem dX8_readAll_39 : decode cX8_readAll 39 = .ok (.iload_n 3, 1) := by decide +kernel
theorem dX8_readAll_40 : decode cX8_readAll 40 = .ok (.invokevirtual 52, 3) := by decide +kernel
theorem dX8_readAll_43 : decode cX8_readAll 43 = .ok (.ifCond .ne 5, 3) := by decide +kernel
theorem dX8_readAll_46 : decode cX8_readAll 46 = .ok (.iconst 0, 1) := by decide +kernel
theorem dX8_readAll_47 : decode cX8_readAll 47 = .ok (.ireturn, 1) := by decide +kernel
theorem dX8_readAll_48 : decode cX8_readAll 48 = .ok (.aload_n 0, 1) := by decide +kernel
theorem dX8_readAll_49 : decode cX8_readAll 49 = .ok (.bipush 15, 2) := by decide +kernel
theorem dX8_readAll_51 : decode cX8_readAll 51 = .ok (.iconst 0, 1) := by decide +kernel
theorem dX8_readAll_52 : decode cX8_readAll 52 = .ok (.iconst 0, 1) := by decide +kernel
theorem dX8_readAll_53 : decode cX8_readAll 53 = .ok (.invokevirtual 41, 3) := by decide +kernel
theorem dX8_readAll_56 : decode cX8_readAll 56 = .ok (.pop, 1) := by decide +kernel
theorem dX8_readAll_57 : decode cX8_readAll 57 = .ok (.iinc 4 1, 3) := by decide +kernel
theorem dX8_readAll_60 : decode cX8_readAll 60 = .ok (.goto (-45), 3) := by decide +kernel
theorem dX8_readAll_63 : decode cX8_readAll 63 = .ok (.iconst 1, 1) := by decide +kernel
theorem dX8_readAll_64 : decode cX8_readAll 64 = .ok (.ireturn, 1) := by decide +kernel
theorem dX8_readOne_0 : decode cX8_readOne 0 = .ok (.aload_n 1, 1) := by decide +kernel
theorem dX8_readOne_1 : decode cX8_readOne 1 = .ok (.getfield 45, 3) := by decide +kernel
theorem dX8_readOne_4 : decode cX8_readOne 4 = .ok (.bipush 40, 2) := by decide +kernel
theorem dX8_readOne_6 : decode cX8_readOne 6 = .ok (.if_icmp .ne 7, 3) := by decide +kernel
theorem dX8_readOne_9 : decode cX8_readOne 9 = .ok (.iconst 1, 1) := by decide +kernel
theorem dX8_readOne_10 : decode cX8_readOne 10 = .ok (.goto 4, 3) := by decide +kernel
theorem dX8_readOne_13 : decode cX8_readOne 13 = .ok (.iconst 0, 1) := by decide +kernel
theorem dX8_readOne_14 : decode cX8_readOne 14 = .ok (.istore 4, 2) := by decide +kernel
theorem dX8_readOne_16 : decode cX8_readOne 16 = .ok (.aload_n 1, 1) := by decide +kernel
theorem dX8_readOne_17 : decode cX8_readOne 17 = .ok (.invokevirtual 32, 3) := by decide +kernel
theorem dX8_readOne_20 : decode cX8_readOne 20 = .ok (.istore 5, 2) := by decide +kernel
theorem dX8_readOne_22 : decode cX8_readOne 22 = .ok (.iload 4, 2) := by decide +kernel
theorem dX8_readOne_24 : decode cX8_readOne 24 = .ok (.ifCond .ne 17, 3) := by decide +kernel
theorem dX8_readOne_27 : decode cX8_readOne 27 = .ok (.iload 5, 2) := by decide +kernel
theorem dX8_readOne_29 : decode cX8_readOne 29 = .ok (.invokestatic 55, 3) := by decide +kernel
theorem dX8_readOne_32 : decode cX8_readOne 32 = .ok (.ifCond .ne 9, 3) := by decide +kernel
theorem dX8_readOne_35 : decode cX8_readOne 35 = .ok (.aload_n 1, 1) := by decide +kernel
theorem dX8_readOne_36 : decode cX8_readOne 36 = .ok (.iconst 1, 1) := by decide +kernel
theorem dX8_readOne_37 : decode cX8_readOne 37 = .ok (.invokevirtual 48, 3) := by decide +kernel
theorem dX8_readOne_40 : decode cX8_readOne 40 = .ok (.ireturn, 1) := by decide +kernel
theorem dX8_readOne_41 : decode cX8_readOne 41 = .ok (.aload_n 0, 1) := by decide +kernel
theorem dX8_readOne_42 : decode cX8_readOne 42 = .ok (.getfield 25, 3) := by decide +kernel
theorem dX8_readOne_45 : decode cX8_readOne 45 = .ok (.bipush 20, 2) := by decide +kernel
theorem dX8_readOne_47 : decode cX8_readOne 47 = .ok (.if_icmp .ge 9, 3) := by decide +kernel
theorem dX8_readOne_50 : decode cX8_readOne 50 = .ok (.iload_n 3, 1) := by decide +kernel
theorem dX8_readOne_51 : decode cX8_readOne 51 = .ok (.bipush 8, 2) := by decide +kernel
theorem dX8_readOne_53 : decode cX8_readOne 53 = .ok (.if_icmp .le 9, 3) := by decide +kernel
theorem dX8_readOne_56 : decode cX8_readOne 56 = .ok (.aload_n 1, 1) := by decide +kernel
theorem dX8_readOne_57 : decode cX8_readOne 57 = .ok (.iconst 4, 1) := by decide +kernel
theorem dX8_readOne_58 : decode cX8_readOne 58 = .ok (.invokevirtual 48, 3) := by decide +kernel
theorem dX8_readOne_61 : decode cX8_readOne 61 = .ok (.ireturn, 1) := by decide +kernel
theorem dX8_readOne_62 : decode cX8_readOne 62 = .ok (.aload_n 0, 1) := by decide +kernel
theorem dX8_readOne_63 : decode cX8_readOne 63 = .ok (.dup, 1) := by decide +kernel
theorem dX8_readOne_64 : decode cX8_readOne 64 = .ok (.getfield 25, 3) := by decide +kernel
theorem dX8_readOne_67 : decode cX8_readOne 67 = .ok (.iconst 1, 1) := by decide +kernel
theorem dX8_readOne_68 : decode cX8_readOne 68 = .ok (.iadd, 1) := by decide +kernel
theorem dX8_readOne_69 : decode cX8_readOne 69 = .ok (.putfield 25, 3) := by decide +kernel
theorem dX8_readOne_72 : decode cX8_readOne 72 = .ok (.aload_n 1, 1) := by decide +kernel
theorem dX8_readOne_73 : decode cX8_readOne 73 = .ok (.invokevirtual 38, 3) := by decide +kernel
theorem dX8_readOne_76 : decode cX8_readOne 76 = .ok (.iload 4, 2) := by decide +kernel
theorem dX8_readOne_78 : decode cX8_readOne 78 = .ok (.ifCond .eq 30, 3) := by decide +kernel
theorem dX8_readOne_81 : decode cX8_readOne 81 = .ok (.aload_n 0, 1) := by decide +kernel
theorem dX8_readOne_82 : decode cX8_readOne 82 = .ok (.aload_n 1, 1) := by decide +kernel
theorem dX8_readOne_83 : decode cX8_readOne 83 = .ok (.aload_n 2, 1) := by decide +kernel
theorem dX8_readOne_84 : decode cX8_readOne 84 = .ok (.iload_n 3, 1) := by decide +kernel
theorem dX8_readOne_85 : decode cX8_readOne 85 = .ok (.iconst 1, 1) := by decide +kernel
theorem dX8_readOne_86 : decode cX8_readOne 86 = .ok (.iadd, 1) := by decide +kernel
theorem dX8_readOne_87 : decode cX8_readOne 87 = .ok (.invokevirtual 58, 3) := by decide +kernel
theorem dX8_readOne_90 : decode cX8_readOne 90 = .ok (.ifCond .eq 16, 3) := by decide +kernel
theorem dX8_readOne_93 : decode cX8_readOne 93 = .ok (.aload_n 1, 1) := by decide +kernel
theorem dX8_readOne_94 : decode cX8_readOne 94 = .ok (.bipush 41, 2) := by decide +kernel
theorem dX8_readOne_96 : decode cX8_readOne 96 = .ok (.invokevirtual 61, 3) := by decide +kernel
theorem dX8_readOne_99 : decode cX8_readOne 99 = .ok (.ifCond .eq 7, 3) := by decide +kernel
theorem dX8_readOne_102 : decode cX8_readOne 102 = .ok (.iconst 1, 1) := by decide +kernel
theorem dX8_readOne_103 : decode cX8_readOne 103 = .ok (.goto 4, 3) := by decide +kernel
theorem dX8_readOne_106 : decode cX8_readOne 106 = .ok (.iconst 0, 1) := by decide +kernel
theorem dX8_readOne_107 : decode cX8_readOne 107 = .ok (.ireturn, 1) := by decide +kernel
theorem dX8_readOne_108 : decode cX8_readOne 108 = .ok (.iload 5, 2) := by decide +kernel
theorem dX8_readOne_110 : decode cX8_readOne 110 = .ok (.bipush 16, 2) := by decide +kernel
theorem dX8_readOne_112 : decode cX8_readOne 112 = .ok (.if_icmp .ne 32, 3) := by decide +kernel
theorem dX8_readOne_115 : decode cX8_readOne 115 = .ok (.aload_n 0, 1) := by decide +kernel
theorem dX8_readOne_116 : decode cX8_readOne 116 = .ok (.aload_n 1, 1) := by decide +kernel
theorem dX8_readOne_117 : decode cX8_readOne 117 = .ok (.aload_n 2, 1) := by decide +kernel
theorem dX8_readOne_118 : decode cX8_readOne 118 = .ok (.iload_n 3, 1) := by decide +kernel
theorem dX8_readOne_119 : decode cX8_readOne 119 = .ok (.iconst 1, 1) := by decide +kernel
theorem dX8_readOne_120 : decode cX8_readOne 120 = .ok (.iadd, 1) := by decide +kernel
theorem dX8_readOne_121 : decode cX8_readOne 121 = .ok (.invokevirtual 52, 3) := by decide +kernel
theorem dX8_readOne_124 : decode cX8_readOne 124 = .ok (.ifCond .eq 18, 3) := by decide +kernel
theorem dX8_readOne_127 : decode cX8_readOne 127 = .ok (.aload_n 0, 1) := by decide +kernel
theorem dX8_readOne_128 : decode cX8_readOne 128 = .ok (.bipush 16, 2) := by decide +kernel
theorem dX8_readOne_130 : decode cX8_readOne 130 = .ok (.iconst 0, 1) := by decide +kernel
theorem dX8_readOne_131 : decode cX8_readOne 131 = .ok (.iconst 0, 1) := by decide +kernel
theorem dX8_readOne_132 : decode cX8_readOne 132 = .ok (.invokevirtual 41, 3) := by decide +kernel
theorem dX8_readOne_135 : decode cX8_readOne 135 = .ok (.ifCond .eq 7, 3) := by decide +kernel
theorem dX8_readOne_138 : decode cX8_readOne 138 = .ok (.iconst 1, 1) := by decide +kernel
theorem dX8_readOne_139 : decode cX8_readOne 139 = .ok (.goto 4, 3) := by decide +kernel
theorem dX8_readOne_142 : decode cX8_readOne 142 = .ok (.iconst 0, 1) := by decide +kernel
theorem dX8_readOne_143 : decode cX8_readOne 143 = .ok (.ireturn, 1) := by decide +kernel
theorem dX8_readOne_144 : decode cX8_readOne 144 = .ok (.iload 5, 2) := by decide +kernel
theorem dX8_readOne_146 : decode cX8_readOne 146 = .ok (.bipush 18, 2) := by decide +kernel
theorem dX8_readOne_148 : decode cX8_readOne 148 = .ok (.if_icmp .ne 10, 3) := by decide +kernel
theorem dX8_readOne_151 : decode cX8_readOne 151 = .ok (.aload_n 0, 1) := by decide +kernel
theorem dX8_readOne_152 : decode cX8_readOne 152 = .ok (.aload_n 1, 1) := by decide +kernel
theorem dX8_readOne_153 : decode cX8_readOne 153 = .ok (.aload_n 2, 1) := by decide +kernel
theorem dX8_readOne_154 : decode cX8_readOne 154 = .ok (.invokevirtual 64, 3) := by decide +kernel
theorem dX8_readOne_157 : decode cX8_readOne 157 = .ok (.ireturn, 1) := by decide +kernel
theorem dX8_readOne_158 : decode cX8_readOne 158 = .ok (.iload 5, 2) := by decide +kernel
theorem dX8_readOne_160 : decode cX8_readOne 160 = .ok (.bipush 19, 2) := by decide +kernel
theorem dX8_readOne_162 : decode cX8_readOne 162 = .ok (.if_icmp .lt 11, 3) := by decide +kernel
theorem dX8_readOne_165 : decode cX8_readOne 165 = .ok (.aload_n 0, 1) := by decide +kernel
theorem dX8_readOne_166 : decode cX8_readOne 166 = .ok (.aload_n 1, 1) := by decide +kernel
theorem dX8_readOne_167 : decode cX8_readOne 167 = .ok (.iload 5, 2) := by decide +kernel
theorem dX8_readOne_169 : decode cX8_readOne 169 = .ok (.invokevirtual 68, 3) := by decide +kernel
theorem dX8_readOne_172 : decode cX8_readOne 172 = .ok (.ireturn, 1) := by decide +kernel
theorem dX8_readOne_173 : decode cX8_readOne 173 = .ok (.aload_n 0, 1) := by decide +kernel
theorem dX8_readOne_174 : decode cX8_readOne 174 = .ok (.iload 5, 2) := by decide +kernel
theorem dX8_readOne_176 : decode cX8_readOne 176 = .ok (.iconst 0, 1) := by decide +kernel
theorem dX8_readOne_177 : decode cX8_readOne 177 = .ok (.iconst 0, 1) := by decide +kernel
theorem dX8_readOne_178 : decode cX8_readOne 178 = .ok (.invokevirtual 41, 3) := by decide +kernel
theorem dX8_readOne_181 : decode cX8_readOne 181 = .ok (.ireturn, 1) := by decide +kernel
theorem dX8_beginsOne_0 : decode cX8_beginsOne 0 = .ok (.iload_n 0, 1) := by decide +kernel
theorem dX8_beginsOne_1 : decode cX8_beginsOne 1 = .ok (.bipush 8, 2) := by decide +kernel
theorem dX8_beginsOne_3 : decode cX8_beginsOne 3 = .ok (.if_icmp .eq 9, 3) := by decide +kernel
theorem dX8_beginsOne_6 : decode cX8_beginsOne 6 = .ok (.iload_n 0, 1) := by decide +kernel
theorem dX8_beginsOne_7 : decode cX8_beginsOne 7 = .ok (.bipush 16, 2) := by decide +kernel
theorem dX8_beginsOne_9 : decode cX8_beginsOne 9 = .ok (.if_icmp .lt 7, 3) := by decide +kernel
theorem dX8_beginsOne_12 : decode cX8_beginsOne 12 = .ok (.iconst 1, 1) := by decide +kernel
theorem dX8_beginsOne_13 : decode cX8_beginsOne 13 = .ok (.goto 4, 3) := by decide +kernel
theorem dX8_beginsOne_16 : decode cX8_beginsOne 16 = .ok (.iconst 0, 1) := by decide +kernel
theorem dX8_beginsOne_17 : decode cX8_beginsOne 17 = .ok (.ireturn, 1) := by decide +kernel
theorem dX9_init_0 : decode cX9_init 0 = .ok (.aload_n 0, 1) := by decide +kernel
theorem dX9_init_1 : decode cX9_init 1 = .ok (.invokespecial 3, 3) := by decide +kernel
theorem dX9_init_4 : decode cX9_init 4 = .ok (.aload_n 0, 1) := by decide +kernel
theorem dX9_init_5 : decode cX9_init 5 = .ok (.new 9, 3) := by decide +kernel
theorem dX9_init_8 : decode cX9_init 8 = .ok (.dup, 1) := by decide +kernel
theorem dX9_init_9 : decode cX9_init 9 = .ok (.invokespecial 11, 3) := by decide +kernel
theorem dX9_init_12 : decode cX9_init 12 = .ok (.putfield 12, 3) := by decide +kernel
theorem dX9_init_15 : decode cX9_init 15 = .ok (.aload_n 0, 1) := by decide +kernel
theorem dX9_init_16 : decode cX9_init 16 = .ok (.new 16, 3) := by decide +kernel
theorem dX9_init_19 : decode cX9_init 19 = .ok (.dup, 1) := by decide +kernel
theorem dX9_init_20 : decode cX9_init 20 = .ok (.invokespecial 18, 3) := by decide +kernel
theorem dX9_init_23 : decode cX9_init 23 = .ok (.putfield 19, 3) := by decide +kernel
theorem dX9_init_26 : decode cX9_init 26 = .ok (.aload_n 0, 1) := by decide +kernel
theorem dX9_init_27 : decode cX9_init 27 = .ok (.new 16, 3) := by decide +kernel
theorem dX9_init_30 : decode cX9_init 30 = .ok (.dup, 1) := by decide +kernel
theorem dX9_init_31 : decode cX9_init 31 = .ok (.invokespecial 18, 3) := by decide +kernel
theorem dX9_init_34 : decode cX9_init 34 = .ok (.putfield 23, 3) := by decide +kernel
theorem dX9_init_37 : decode cX9_init 37 = .ok (.aload_n 0, 1) := by decide +kernel
theorem dX9_init_38 : decode cX9_init 38 = .ok (.new 16, 3) := by decide +kernel
theorem dX9_init_41 : decode cX9_init 41 = .ok (.dup, 1) := by decide +kernel
theorem dX9_init_42 : decode cX9_init 42 = .ok (.invokespecial 18, 3) := by decide +kernel
theorem dX9_init_45 : decode cX9_init 45 = .ok (.putfield 26, 3) := by decide +kernel
theorem dX9_init_48 : decode cX9_init 48 = .ok (.aload_n 0, 1) := by decide +kernel
theorem dX9_init_49 : decode cX9_init 49 = .ok (.new 29, 3) := by decide +kernel
theorem dX9_init_52 : decode cX9_init 52 = .ok (.dup, 1) := by decide +kernel
theorem dX9_init_53 : decode cX9_init 53 = .ok (.invokespecial 31, 3) := by decide +kernel
theorem dX9_init_56 : decode cX9_init 56 = .ok (.putfield 32, 3) := by decide +kernel
theorem dX9_init_59 : decode cX9_init 59 = .ok (.aload_n 0, 1) := by decide +kernel
theorem dX9_init_60 : decode cX9_init 60 = .ok (.new 29, 3) := by decide +kernel
theorem dX9_init_63 : decode cX9_init 63 = .ok (.dup, 1) := by decide +kernel
theorem dX9_init_64 : decode cX9_init 64 = .ok (.invokespecial 31, 3) := by decide +kernel
theorem dX9_init_67 : decode cX9_init 67 = .ok (.putfield 36, 3) := by decide +kernel
theorem dX9_init_70 : decode cX9_init 70 = .ok (.aload_n 0, 1) := by decide +kernel
theorem dX9_init_71 : decode cX9_init 71 = .ok (.bipush 8, 2) := by decide +kernel
theorem dX9_init_73 : decode cX9_init 73 = .ok (.anewarray 16, 3) := by decide +kernel
theorem dX9_init_76 : decode cX9_init 76 = .ok (.putfield 39, 3) := by decide +kernel
theorem dX9_init_79 : decode cX9_init 79 = .ok (.aload_n 0, 1) := by decide +kernel
theorem dX9_init_80 : decode cX9_init 80 = .ok (.iconst 2, 1) := by decide +kernel
theorem dX9_init_81 : decode cX9_init 81 = .ok (.anewarray 43, 3) := by decide +kernel
theorem dX9_init_84 : decode cX9_init 84 = .ok (.putfield 45, 3) := by decide +kernel
theorem dX9_init_87 : decode cX9_init 87 = .ok (.aload_n 0, 1) := by decide +kernel
theorem dX9_init_88 : decode cX9_init 88 = .ok (.new 49, 3) := by decide +kernel
theorem dX9_init_91 : decode cX9_init 91 = .ok (.dup, 1) := by decide +kernel
theorem dX9_init_92 : decode cX9_init 92 = .ok (.invokespecial 51, 3) := by decide +kernel
theorem dX9_init_95 : decode cX9_init 95 = .ok (.putfield 52, 3) := by decide +kernel
theorem dX9_init_98 : decode cX9_init 98 = .ok (.aload_n 0, 1) := by decide +kernel
theorem dX9_init_99 : decode cX9_init 99 = .ok (.new 49, 3) := by decide +kernel
theorem dX9_init_102 : decode cX9_init 102 = .ok (.dup, 1) := by decide +kernel
theorem dX9_init_103 : decode cX9_init 103 = .ok (.invokespecial 51, 3) := by decide +kernel
theorem dX9_init_106 : decode cX9_init 106 = .ok (.putfield 56, 3) := by decide +kernel
theorem dX9_init_109 : decode cX9_init 109 = .ok (.aload_n 0, 1) := by decide +kernel
theorem dX9_init_110 : decode cX9_init 110 = .ok (.new 59, 3) := by decide +kernel
theorem dX9_init_113 : decode cX9_init 113 = .ok (.dup, 1) := by decide +kernel
theorem dX9_init_114 : decode cX9_init 114 = .ok (.iconst 0, 1) := by decide +kernel
theorem dX9_init_115 : decode cX9_init 115 = .ok (.invokespecial 61, 3) := by decide +kernel
theorem dX9_init_118 : decode cX9_init 118 = .ok (.putfield 64, 3) := by decide +kernel
theorem dX9_init_121 : decode cX9_init 121 = .ok (.aload_n 0, 1) := by decide +kernel
theorem dX9_init_122 : decode cX9_init 122 = .ok (.aconst_null, 1) := by decide +kernel
theorem dX9_init_123 : decode cX9_init 123 = .ok (.putfield 68, 3) := by decide +kernel
theorem dX9_init_126 : decode cX9_init 126 = .ok (.aload_n 0, 1) := by decide +kernel
theorem dX9_init_127 : decode cX9_init 127 = .ok (.aconst_null, 1) := by decide +kernel
theorem dX9_init_128 : decode cX9_init 128 = .ok (.putfield 72, 3) := by decide +kernel
theorem dX9_init_131 : decode cX9_init 131 = .ok (.aload_n 0, 1) := by decide +kernel
theorem dX9_init_132 : decode cX9_init 132 = .ok (.aconst_null, 1) := by decide +kernel
theorem dX9_init_133 : decode cX9_init 133 = .ok (.putfield 76, 3) := by decide +kernel
theorem dX9_init_136 : decode cX9_init 136 = .ok (.aload_n 0, 1) := by decide +kernel
theorem dX9_init_137 : decode cX9_init 137 = .ok (.iconst 0, 1) := by decide +kernel
theorem dX9_init_138 : decode cX9_init 138 = .ok (.putfield 80, 3) := by decide +kernel
theorem dX9_init_141 : decode cX9_init 141 = .ok (.aload_n 0, 1) := by decide +kernel
theorem dX9_init_142 : decode cX9_init 142 = .ok (.iconst 0, 1) := by decide +kernel
theorem dX9_init_143 : decode cX9_init 143 = .ok (.putfield 84, 3) := by decide +kernel
theorem dX9_init_146 : decode cX9_init 146 = .ok (.aload_n 0, 1) := by decide +kernel
theorem dX9_init_147 : decode cX9_init 147 = .ok (.iconst 0, 1) := by decide +kernel
theorem dX9_init_148 : decode cX9_init 148 = .ok (.putfield 88, 3) := by decide +kernel
theorem dX9_init_151 : decode cX9_init 151 = .ok (.aload_n 0, 1) := by decide +kernel
theorem dX9_init_152 : decode cX9_init 152 = .ok (.iconst 0, 1) := by decide +kernel
theorem dX9_init_153 : decode cX9_init 153 = .ok (.putfield 91, 3) := by decide +kernel
theorem dX9_init_156 : decode cX9_init 156 = .ok (.aload_n 0, 1) := by decide +kernel
theorem dX9_init_157 : decode cX9_init 157 = .ok (.iconst 0, 1) := by decide +kernel
theorem dX9_init_158 : decode cX9_init 158 = .ok (.putfield 94, 3) := by decide +kernel
theorem dX9_init_161 : decode cX9_init 161 = .ok (.iconst 0, 1) := by decide +kernel
theorem dX9_init_162 : decode cX9_init 162 = .ok (.istore_n 1, 1) := by decide +kernel
theorem dX9_init_163 : decode cX9_init 163 = .ok (.iload_n 1, 1) := by decide +kernel
theorem dX9_init_164 : decode cX9_init 164 = .ok (.aload_n 0, 1) := by decide +kernel
theorem dX9_init_165 : decode cX9_init 165 = .ok (.getfield 39, 3) := by decide +kernel
theorem dX9_init_168 : decode cX9_init 168 = .ok (.arraylength, 1) := by decide +kernel
theorem dX9_init_169 : decode cX9_init 169 = .ok (.if_icmp .ge 22, 3) := by decide +kernel
theorem dX9_init_172 : decode cX9_init 172 = .ok (.aload_n 0, 1) := by decide +kernel
theorem dX9_init_173 : decode cX9_init 173 = .ok (.getfield 39, 3) := by decide +kernel
theorem dX9_init_176 : decode cX9_init 176 = .ok (.iload_n 1, 1) := by decide +kernel
theorem dX9_init_177 : decode cX9_init 177 = .ok (.new 16, 3) := by decide +kernel
theorem dX9_init_180 : decode cX9_init 180 = .ok (.dup, 1) := by decide +kernel
theorem dX9_init_181 : decode cX9_init 181 = .ok (.invokespecial 18, 3) := by decide +kernel
theorem dX9_init_184 : decode cX9_init 184 = .ok (.aastore, 1) := by decide +kernel
theorem dX9_init_185 : decode cX9_init 185 = .ok (.iinc 1 1, 3) := by decide +kernel
theorem dX9_init_188 : decode cX9_init 188 = .ok (.goto (-25), 3) := by decide +kernel
theorem dX9_init_191 : decode cX9_init 191 = .ok (.iconst 0, 1) := by decide +kernel
theorem dX9_init_192 : decode cX9_init 192 = .ok (.istore_n 1, 1) := by decide +kernel
theorem dX9_init_193 : decode cX9_init 193 = .ok (.iload_n 1, 1) := by decide +kernel
theorem dX9_init_194 : decode cX9_init 194 = .ok (.aload_n 0, 1) := by decide +kernel
theorem dX9_init_195 : decode cX9_init 195 = .ok (.getfield 45, 3) := by decide +kernel
theorem dX9_init_198 : decode cX9_init 198 = .ok (.arraylength, 1) := by decide +kernel
theorem dX9_init_199 : decode cX9_init 199 = .ok (.if_icmp .ge 22, 3) := by decide +kernel
theorem dX9_init_202 : decode cX9_init 202 = .ok (.aload_n 0, 1) := by decide +kernel
theorem dX9_init_203 : decode cX9_init 203 = .ok (.getfield 45, 3) := by decide +kernel
theorem dX9_init_206 : decode cX9_init 206 = .ok (.iload_n 1, 1) := by decide +kernel
theorem dX9_init_207 : decode cX9_init 207 = .ok (.new 43, 3) := by decide +kernel
theorem dX9_init_210 : decode cX9_init 210 = .ok (.dup, 1) := by decide +kernel
theorem dX9_init_211 : decode cX9_init 211 = .ok (.invokespecial 97, 3) := by decide +kernel
theorem dX9_init_214 : decode cX9_init 214 = .ok (.aastore, 1) := by decide +kernel
theorem dX9_init_215 : decode cX9_init 215 = .ok (.iinc 1 1, 3) := by decide +kernel
theorem dX9_init_218 : decode cX9_init 218 = .ok (.goto (-25), 3) := by decide +kernel
theorem dX9_init_221 : decode cX9_init 221 = .ok (.aload_n 0, 1) := by decide +kernel
theorem dX9_init_222 : decode cX9_init 222 = .ok (.getfield 19, 3) := by decide +kernel
theorem dX9_init_225 : decode cX9_init 225 = .ok (.aload_n 0, 1) := by decide +kernel
theorem dX9_init_226 : decode cX9_init 226 = .ok (.getfield 64, 3) := by decide +kernel
theorem dX9_init_229 : decode cX9_init 229 = .ok (.invokevirtual 98, 3) := by decide +kernel
theorem dX9_init_232 : decode cX9_init 232 = .ok (.return_, 1) := by decide +kernel
theorem dX9_feed_0 : decode cX9_feed 0 = .ok (.aload_n 0, 1) := by decide +kernel
theorem dX9_feed_1 : decode cX9_feed 1 = .ok (.getfield 12, 3) := by decide +kernel
theorem dX9_feed_4 : decode cX9_feed 4 = .ok (.invokevirtual 102, 3) := by decide +kernel
theorem dX9_feed_7 : decode cX9_feed 7 = .ok (.ifCond .ne 5, 3) := by decide +kernel
theorem dX9_feed_10 : decode cX9_feed 10 = .ok (.iconst (-1), 1) := by decide +kernel
theorem dX9_feed_11 : decode cX9_feed 11 = .ok (.ireturn, 1) := by decide +kernel
theorem dX9_feed_12 : decode cX9_feed 12 = .ok (.aload_n 0, 1) := by decide +kernel
theorem dX9_feed_13 : decode cX9_feed 13 = .ok (.getfield 12, 3) := by decide +kernel
theorem dX9_feed_16 : decode cX9_feed 16 = .ok (.iload_n 1, 1) := by decide +kernel
theorem dX9_feed_17 : decode cX9_feed 17 = .ok (.invokevirtual 106, 3) := by decide +kernel
theorem dX9_feed_20 : decode cX9_feed 20 = .ok (.aload_n 0, 1) := by decide +kernel
theorem dX9_feed_21 : decode cX9_feed 21 = .ok (.getfield 12, 3) := by decide +kernel
theorem dX9_feed_24 : decode cX9_feed 24 = .ok (.iload_n 2, 1) := by decide +kernel
theorem dX9_feed_25 : decode cX9_feed 25 = .ok (.invokevirtual 106, 3) := by decide +kernel
theorem dX9_feed_28 : decode cX9_feed 28 = .ok (.aload_n 0, 1) := by decide +kernel
theorem dX9_feed_29 : decode cX9_feed 29 = .ok (.getfield 12, 3) := by decide +kernel
theorem dX9_feed_32 : decode cX9_feed 32 = .ok (.iload_n 3, 1) := by decide +kernel
theorem dX9_feed_33 : decode cX9_feed 33 = .ok (.invokevirtual 106, 3) := by decide +kernel
theorem dX9_feed_36 : decode cX9_feed 36 = .ok (.aload_n 0, 1) := by decide +kernel
theorem dX9_feed_37 : decode cX9_feed 37 = .ok (.getfield 12, 3) := by decide +kernel
theorem dX9_feed_40 : decode cX9_feed 40 = .ok (.iload 4, 2) := by decide +kernel
theorem dX9_feed_42 : decode cX9_feed 42 = .ok (.invokevirtual 106, 3) := by decide +kernel
theorem dX9_feed_45 : decode cX9_feed 45 = .ok (.aload_n 0, 1) := by decide +kernel
theorem dX9_feed_46 : decode cX9_feed 46 = .ok (.getfield 12, 3) := by decide +kernel
theorem dX9_feed_49 : decode cX9_feed 49 = .ok (.iload 5, 2) := by decide +kernel
theorem dX9_feed_51 : decode cX9_feed 51 = .ok (.invokevirtual 106, 3) := by decide +kernel
theorem dX9_feed_54 : decode cX9_feed 54 = .ok (.aload_n 0, 1) := by decide +kernel
theorem dX9_feed_55 : decode cX9_feed 55 = .ok (.getfield 12, 3) := by decide +kernel
theorem dX9_feed_58 : decode cX9_feed 58 = .ok (.getfield 109, 3) := by decide +kernel
theorem dX9_feed_61 : decode cX9_feed 61 = .ok (.ireturn, 1) := by decide +kernel
theorem dX9_end_0 : decode cX9_end 0 = .ok (.iload_n 1, 1) := by decide +kernel
theorem dX9_end_1 : decode cX9_end 1 = .ok (.ifCond .lt 14, 3) := by decide +kernel
theorem dX9_end_4 : decode cX9_end 4 = .ok (.iload_n 1, 1) := by decide +kernel
theorem dX9_end_5 : decode cX9_end 5 = .ok (.aload_n 0, 1) := by decide +kernel
theorem dX9_end_6 : decode cX9_end 6 = .ok (.getfield 12, 3) := by decide +kernel
theorem dX9_end_9 : decode cX9_end 9 = .ok (.getfield 109, 3) := by decide +kernel
theorem dX9_end_12 : decode cX9_end 12 = .ok (.if_icmp .le 5, 3) := by decide +kernel
theorem dX9_end_15 : decode cX9_end 15 = .ok (.iconst 0, 1) := by decide +kernel
theorem dX9_end_16 : decode cX9_end 16 = .ok (.ireturn, 1) := by decide +kernel
theorem dX9_end_17 : decode cX9_end 17 = .ok (.aload_n 0, 1) := by decide +kernel
theorem dX9_end_18 : decode cX9_end 18 = .ok (.getfield 12, 3) := by decide +kernel
theorem dX9_end_21 : decode cX9_end 21 = .ok (.iload_n 1, 1) := by decide +kernel
theorem dX9_end_22 : decode cX9_end 22 = .ok (.putfield 109, 3) := by decide +kernel
theorem dX9_end_25 : decode cX9_end 25 = .ok (.iconst 1, 1) := by decide +kernel
theorem dX9_end_26 : decode cX9_end 26 = .ok (.ireturn, 1) := by decide +kernel
theorem dX9_course_0 : decode cX9_course 0 = .ok (.new 59, 3) := by decide +kernel
theorem dX9_course_3 : decode cX9_course 3 = .ok (.dup, 1) := by decide +kernel
theorem dX9_course_4 : decode cX9_course 4 = .ok (.aload_n 0, 1) := by decide +kernel
theorem dX9_course_5 : decode cX9_course 5 = .ok (.getfield 91, 3) := by decide +kernel
theorem dX9_course_8 : decode cX9_course 8 = .ok (.iconst 1, 1) := by decide +kernel
theorem dX9_course_9 : decode cX9_course 9 = .ok (.iadd, 1) := by decide +kernel
theorem dX9_course_10 : decode cX9_course 10 = .ok (.invokespecial 61, 3) := by decide +kernel
theorem dX9_course_13 : decode cX9_course 13 = .ok (.astore_n 1, 1) := by decide +kernel
theorem dX9_course_14 : decode cX9_course 14 = .ok (.aload_n 0, 1) := by decide +kernel
theorem dX9_course_15 : decode cX9_course 15 = .ok (.getfield 12, 3) := by decide +kernel
theorem dX9_course_18 : decode cX9_course 18 = .ok (.sipush 900, 3) := by decide +kernel
theorem dX9_course_21 : decode cX9_course 21 = .ok (.invokevirtual 112, 3) := by decide +kernel
theorem dX9_course_24 : decode cX9_course 24 = .ok (.aload_n 1, 1) := by decide +kernel
theorem dX9_course_25 : decode cX9_course 25 = .ok (.aload_n 0, 1) := by decide +kernel
theorem dX9_course_26 : decode cX9_course 26 = .ok (.getfield 12, 3) := by decide +kernel
theorem dX9_course_29 : decode cX9_course 29 = .ok (.invokevirtual 115, 3) := by decide +kernel
theorem dX9_course_32 : decode cX9_course 32 = .ok (.istore_n 2, 1) := by decide +kernel
theorem dX9_course_33 : decode cX9_course 33 = .ok (.iload_n 2, 1) := by decide +kernel
theorem dX9_course_34 : decode cX9_course 34 = .ok (.ifCond .eq 43, 3) := by decide +kernel
theorem dX9_course_37 : decode cX9_course 37 = .ok (.aload_n 0, 1) := by decide +kernel
theorem dX9_course_38 : decode cX9_course 38 = .ok (.dup, 1) := by decide +kernel
theorem dX9_course_39 : decode cX9_course 39 = .ok (.getfield 91, 3) := by decide +kernel
theorem dX9_course_42 : decode cX9_course 42 = .ok (.iconst 1, 1) := by decide +kernel
theorem dX9_course_43 : decode cX9_course 43 = .ok (.iadd, 1) := by decide +kernel
theorem dX9_course_44 : decode cX9_course 44 = .ok (.putfield 91, 3) := by decide +kernel
theorem dX9_course_47 : decode cX9_course 47 = .ok (.aload_n 0, 1) := by decide +kernel
theorem dX9_course_48 : decode cX9_course 48 = .ok (.aload_n 1, 1) := by decide +kernel
theorem dX9_course_49 : decode cX9_course 49 = .ok (.putfield 64, 3) := by decide +kernel
theorem dX9_course_52 : decode cX9_course 52 = .ok (.aload_n 0, 1) := by decide +kernel
theorem dX9_course_53 : decode cX9_course 53 = .ok (.getfield 19, 3) := by decide +kernel
theorem dX9_course_56 : decode cX9_course 56 = .ok (.aload_n 0, 1) := by decide +kernel
theorem dX9_course_57 : decode cX9_course 57 = .ok (.getfield 64, 3) := by decide +kernel
theorem dX9_course_60 : decode cX9_course 60 = .ok (.invokevirtual 98, 3) := by decide +kernel
theorem dX9_course_63 : decode cX9_course 63 = .ok (.aload_n 0, 1) := by decide +kernel
theorem dX9_course_64 : decode cX9_course 64 = .ok (.iconst 0, 1) := by decide +kernel
theorem dX9_course_65 : decode cX9_course 65 = .ok (.putfield 80, 3) := by decide +kernel
theorem dX9_course_68 : decode cX9_course 68 = .ok (.aload_n 0, 1) := by decide +kernel
theorem dX9_course_69 : decode cX9_course 69 = .ok (.aconst_null, 1) := by decide +kernel
theorem dX9_course_70 : decode cX9_course 70 = .ok (.putfield 68, 3) := by decide +kernel
theorem dX9_course_73 : decode cX9_course 73 = .ok (.aload_n 0, 1) := by decide +kernel
theorem dX9_course_74 : decode cX9_course 74 = .ok (.invokevirtual 119, 3) := by decide +kernel
theorem dX9_course_77 : decode cX9_course 77 = .ok (.aload_n 0, 1) := by decide +kernel
theorem dX9_course_78 : decode cX9_course 78 = .ok (.iload_n 2, 1) := by decide +kernel
theorem dX9_course_79 : decode cX9_course 79 = .ok (.aload_n 1, 1) := by decide +kernel
theorem dX9_course_80 : decode cX9_course 80 = .ok (.getfield 122, 3) := by decide +kernel
theorem dX9_course_83 : decode cX9_course 83 = .ok (.invokevirtual 125, 3) := by decide +kernel
theorem dX9_course_86 : decode cX9_course 86 = .ok (.ireturn, 1) := by decide +kernel
theorem dX9_plan_0 : decode cX9_plan 0 = .ok (.aload_n 0, 1) := by decide +kernel
theorem dX9_plan_1 : decode cX9_plan 1 = .ok (.getfield 12, 3) := by decide +kernel
theorem dX9_plan_4 : decode cX9_plan 4 = .ok (.sipush 400, 3) := by decide +kernel
theorem dX9_plan_7 : decode cX9_plan 7 = .ok (.invokevirtual 112, 3) := by decide +kernel
theorem dX9_plan_10 : decode cX9_plan 10 = .ok (.aload_n 0, 1) := by decide +kernel
theorem dX9_plan_11 : decode cX9_plan 11 = .ok (.getfield 26, 3) := by decide +kernel
theorem dX9_plan_14 : decode cX9_plan 14 = .ok (.aload_n 0, 1) := by decide +kernel
theorem dX9_plan_15 : decode cX9_plan 15 = .ok (.getfield 12, 3) := by decide +kernel
theorem dX9_plan_18 : decode cX9_plan 18 = .ok (.aload_n 0, 1) := by decide +kernel
theorem dX9_plan_19 : decode cX9_plan 19 = .ok (.getfield 64, 3) := by decide +kernel
theorem dX9_plan_22 : decode cX9_plan 22 = .ok (.invokevirtual 129, 3) := by decide +kernel
theorem dX9_plan_25 : decode cX9_plan 25 = .ok (.istore_n 1, 1) := by decide +kernel
theorem dX9_plan_26 : decode cX9_plan 26 = .ok (.iload_n 1, 1) := by decide +kernel
theorem dX9_plan_27 : decode cX9_plan 27 = .ok (.ifCond .eq 18, 3) := by decide +kernel
theorem dX9_plan_30 : decode cX9_plan 30 = .ok (.aload_n 0, 1) := by decide +kernel
theorem dX9_plan_31 : decode cX9_plan 31 = .ok (.getfield 19, 3) := by decide +kernel
theorem dX9_plan_34 : decode cX9_plan 34 = .ok (.aload_n 0, 1) := by decide +kernel
theorem dX9_plan_35 : decode cX9_plan 35 = .ok (.getfield 26, 3) := by decide +kernel
theorem dX9_plan_38 : decode cX9_plan 38 = .ok (.invokevirtual 132, 3) := by decide +kernel
theorem dX9_plan_41 : decode cX9_plan 41 = .ok (.aload_n 0, 1) := by decide +kernel
theorem dX9_plan_42 : decode cX9_plan 42 = .ok (.invokevirtual 119, 3) := by decide +kernel
theorem dX9_plan_45 : decode cX9_plan 45 = .ok (.aload_n 0, 1) := by decide +kernel
theorem dX9_plan_46 : decode cX9_plan 46 = .ok (.iload_n 1, 1) := by decide +kernel
theorem dX9_plan_47 : decode cX9_plan 47 = .ok (.aload_n 0, 1) := by decide +kernel
theorem dX9_plan_48 : decode cX9_plan 48 = .ok (.getfield 26, 3) := by decide +kernel
theorem dX9_plan_51 : decode cX9_plan 51 = .ok (.getfield 136, 3) := by decide +kernel
theorem dX9_plan_54 : decode cX9_plan 54 = .ok (.invokevirtual 125, 3) := by decide +kernel
theorem dX9_plan_57 : decode cX9_plan 57 = .ok (.ireturn, 1) := by decide +kernel
theorem dX9_fault_0 : decode cX9_fault 0 = .ok (.aload_n 0, 1) := by decide +kernel
theorem dX9_fault_1 : decode cX9_fault 1 = .ok (.getfield 94, 3) := by decide +kernel
theorem dX9_fault_4 : decode cX9_fault 4 = .ok (.ireturn, 1) := by decide +kernel
theorem dX9_sentence_0 : decode cX9_sentence 0 = .ok (.new 137, 3) := by decide +kernel
theorem dX9_sentence_3 : decode cX9_sentence 3 = .ok (.dup, 1) := by decide +kernel
theorem dX9_sentence_4 : decode cX9_sentence 4 = .ok (.invokespecial 139, 3) := by decide +kernel
theorem dX9_sentence_7 : decode cX9_sentence 7 = .ok (.astore_n 1, 1) := by decide +kernel
theorem dX9_sentence_8 : decode cX9_sentence 8 = .ok (.aload_n 0, 1) := by decide +kernel
theorem dX9_sentence_9 : decode cX9_sentence 9 = .ok (.getfield 12, 3) := by decide +kernel
theorem dX9_sentence_12 : decode cX9_sentence 12 = .ok (.sipush 200, 3) := by decide +kernel
theorem dX9_sentence_15 : decode cX9_sentence 15 = .ok (.invokevirtual 112, 3) := by decide +kernel
theorem dX9_sentence_18 : decode cX9_sentence 18 = .ok (.aload_n 1, 1) := by decide +kernel
theorem dX9_sentence_19 : decode cX9_sentence 19 = .ok (.aload_n 0, 1) := by decide +kernel
theorem dX9_sentence_20 : decode cX9_sentence 20 = .ok (.getfield 12, 3) := by decide +kernel
theorem dX9_sentence_23 : decode cX9_sentence 23 = .ok (.aload_n 0, 1) := by decide +kernel
theorem dX9_sentence_24 : decode cX9_sentence 24 = .ok (.getfield 64, 3) := by decide +kernel
theorem dX9_sentence_27 : decode cX9_sentence 27 = .ok (.iconst 1, 1) := by decide +kernel
theorem dX9_sentence_28 : decode cX9_sentence 28 = .ok (.invokevirtual 140, 3) := by decide +kernel
theorem dX9_sentence_31 : decode cX9_sentence 31 = .ok (.istore_n 2, 1) := by decide +kernel
theorem dX9_sentence_32 : decode cX9_sentence 32 = .ok (.iload_n 2, 1) := by decide +kernel
theorem dX9_sentence_33 : decode cX9_sentence 33 = .ok (.ifCond .eq 8, 3) := by decide +kernel
theorem dX9_sentence_36 : decode cX9_sentence 36 = .ok (.aload_n 0, 1) := by decide +kernel
theorem dX9_sentence_37 : decode cX9_sentence 37 = .ok (.aload_n 1, 1) := by decide +kernel
theorem dX9_sentence_38 : decode cX9_sentence 38 = .ok (.putfield 68, 3) := by decide +kernel
theorem dX9_sentence_41 : decode cX9_sentence 41 = .ok (.aload_n 0, 1) := by decide +kernel
theorem dX9_sentence_42 : decode cX9_sentence 42 = .ok (.iload_n 2, 1) := by decide +kernel
theorem dX9_sentence_43 : decode cX9_sentence 43 = .ok (.aload_n 1, 1) := by decide +kernel
theorem dX9_sentence_44 : decode cX9_sentence 44 = .ok (.getfield 144, 3) := by decide +kernel
theorem dX9_sentence_47 : decode cX9_sentence 47 = .ok (.invokevirtual 125, 3) := by decide +kernel
theorem dX9_sentence_50 : decode cX9_sentence 50 = .ok (.ireturn, 1) := by decide +kernel
theorem dX9_answerText_0 : decode cX9_answerText 0 = .ok (.aload_n 0, 1) := by decide +kernel
theorem dX9_answerText_1 : decode cX9_answerText 1 = .ok (.getfield 12, 3) := by decide +kernel
theorem dX9_answerText_4 : decode cX9_answerText 4 = .ok (.iconst 0, 1) := by decide +kernel
theorem dX9_answerText_5 : decode cX9_answerText 5 = .ok (.putfield 109, 3) := by decide +kernel
theorem dX9_answerText_8 : decode cX9_answerText 8 = .ok (.aload_n 0, 1) := by decide +kernel
theorem dX9_answerText_9 : decode cX9_answerText 9 = .ok (.iload_n 1, 1) := by decide +kernel
theorem dX9_answerText_10 : decode cX9_answerText 10 = .ok (.ifCond .eq 7, 3) := by decide +kernel
theorem dX9_answerText_13 : decode cX9_answerText 13 = .ok (.iconst 0, 1) := by decide +kernel
theorem dX9_answerText_14 : decode cX9_answerText 14 = .ok (.goto 10, 3) := by decide +kernel
theorem dX9_answerText_17 : decode cX9_answerText 17 = .ok (.aload_n 0, 1) := by decide +kernel
theorem dX9_answerText_18 : decode cX9_answerText 18 = .ok (.getfield 12, 3) := by decide +kernel
theorem dX9_answerText_21 : decode cX9_answerText 21 = .ok (.getfield 147, 3) := by decide +kernel
theorem dX9_answerText_24 : decode cX9_answerText 24 = .ok (.putfield 94, 3) := by decide +kernel
theorem dX9_answerText_27 : decode cX9_answerText 27 = .ok (.iload_n 1, 1) := by decide +kernel
theorem dX9_answerText_28 : decode cX9_answerText 28 = .ok (.ifCond .eq 7, 3) := by decide +kernel
theorem dX9_answerText_31 : decode cX9_answerText 31 = .ok (.iload_n 2, 1) := by decide +kernel
theorem dX9_answerText_32 : decode cX9_answerText 32 = .ok (.goto 12, 3) := by decide +kernel
theorem dX9_answerText_35 : decode cX9_answerText 35 = .ok (.iconst (-1), 1) := by decide +kernel
theorem dX9_answerText_36 : decode cX9_answerText 36 = .ok (.aload_n 0, 1) := by decide +kernel
theorem dX9_answerText_37 : decode cX9_answerText 37 = .ok (.getfield 12, 3) := by decide +kernel
theorem dX9_answerText_40 : decode cX9_answerText 40 = .ok (.getfield 150, 3) := by decide +kernel
theorem dX9_answerText_43 : decode cX9_answerText 43 = .ok (.isub, 1) := by decide +kernel
theorem dX9_answerText_44 : decode cX9_answerText 44 = .ok (.ireturn, 1) := by decide +kernel
theorem dX9_bend_0 : decode cX9_bend 0 = .ok (.iload_n 1, 1) := by decide +kernel
theorem dX9_bend_1 : decode cX9_bend 1 = .ok (.ifCond .lt 14, 3) := by decide +kernel
theorem dX9_bend_4 : decode cX9_bend 4 = .ok (.iload_n 1, 1) := by decide +kernel
theorem dX9_bend_5 : decode cX9_bend 5 = .ok (.aload_n 0, 1) := by decide +kernel
theorem dX9_bend_6 : decode cX9_bend 6 = .ok (.getfield 64, 3) := by decide +kernel
theorem dX9_bend_9 : decode cX9_bend 9 = .ok (.getfield 180, 3) := by decide +kernel
theorem dX9_bend_12 : decode cX9_bend 12 = .ok (.if_icmp .lt 5, 3) := by decide +kernel
theorem dX9_bend_15 : decode cX9_bend 15 = .ok (.iconst (-1), 1) := by decide +kernel
theorem dX9_bend_16 : decode cX9_bend 16 = .ok (.ireturn, 1) := by decide +kernel
theorem dX9_bend_17 : decode cX9_bend 17 = .ok (.iload_n 2, 1) := by decide +kernel
theorem dX9_bend_18 : decode cX9_bend 18 = .ok (.tableswitch 84 0 4 #[34, 44, 54, 64, 74], 34) := by decide +kernel
theorem dX9_bend_52 : decode cX9_bend 52 = .ok (.aload_n 0, 1) := by decide +kernel
theorem dX9_bend_53 : decode cX9_bend 53 = .ok (.getfield 64, 3) := by decide +kernel
theorem dX9_bend_56 : decode cX9_bend 56 = .ok (.getfield 183, 3) := by decide +kernel
theorem dX9_bend_59 : decode cX9_bend 59 = .ok (.iload_n 1, 1) := by decide +kernel
theorem dX9_bend_60 : decode cX9_bend 60 = .ok (.iaload, 1) := by decide +kernel
theorem dX9_bend_61 : decode cX9_bend 61 = .ok (.ireturn, 1) := by decide +kernel
theorem dX9_bend_62 : decode cX9_bend 62 = .ok (.aload_n 0, 1) := by decide +kernel
theorem dX9_bend_63 : decode cX9_bend 63 = .ok (.getfield 64, 3) := by decide +kernel
theorem dX9_bend_66 : decode cX9_bend 66 = .ok (.getfield 185, 3) := by decide +kernel
theorem dX9_bend_69 : decode cX9_bend 69 = .ok (.iload_n 1, 1) := by decide +kernel
theorem dX9_bend_70 : decode cX9_bend 70 = .ok (.iaload, 1) := by decide +kernel
theorem dX9_bend_71 : decode cX9_bend 71 = .ok (.ireturn, 1) := by decide +kernel
theorem dX9_bend_72 : decode cX9_bend 72 = .ok (.aload_n 0, 1) := by decide +kernel
theorem dX9_bend_73 : decode cX9_bend 73 = .ok (.getfield 64, 3) := by decide +kernel
theorem dX9_bend_76 : decode cX9_bend 76 = .ok (.getfield 188, 3) := by decide +kernel
theorem dX9_bend_79 : decode cX9_bend 79 = .ok (.iload_n 1, 1) := by decide +kernel
theorem dX9_bend_80 : decode cX9_bend 80 = .ok (.iaload, 1) := by decide +kernel
theorem dX9_bend_81 : decode cX9_bend 81 = .ok (.ireturn, 1) := by decide +kernel
theorem dX9_bend_82 : decode cX9_bend 82 = .ok (.aload_n 0, 1) := by decide +kernel
theorem dX9_bend_83 : decode cX9_bend 83 = .ok (.getfield 64, 3) := by decide +kernel
theorem dX9_bend_86 : decode cX9_bend 86 = .ok (.getfield 191, 3) := by decide +kernel
theorem dX9_bend_89 : decode cX9_bend 89 = .ok (.iload_n 1, 1) := by decide +kernel
theorem dX9_bend_90 : decode cX9_bend 90 = .ok (.iaload, 1) := by decide +kernel
theorem dX9_bend_91 : decode cX9_bend 91 = .ok (.ireturn, 1) := by decide +kernel
theorem dX9_bend_92 : decode cX9_bend 92 = .ok (.aload_n 0, 1) := by decide +kernel
theorem dX9_bend_93 : decode cX9_bend 93 = .ok (.getfield 19, 3) := by decide +kernel
theorem dX9_bend_96 : decode cX9_bend 96 = .ok (.getfield 194, 3) := by decide +kernel
theorem dX9_bend_99 : decode cX9_bend 99 = .ok (.iload_n 1, 1) := by decide +kernel
theorem dX9_bend_100 : decode cX9_bend 100 = .ok (.iaload, 1) := by decide +kernel
theorem dX9_bend_101 : decode cX9_bend 101 = .ok (.ireturn, 1) := by decide +kernel
theorem dX9_bend_102 : decode cX9_bend 102 = .ok (.iconst (-1), 1) := by decide +kernel
theorem dX9_bend_103 : decode cX9_bend 103 = .ok (.ireturn, 1) := by decide +kernel
theorem dX9_runner_0 : decode cX9_runner 0 = .ok (.iload_n 1, 1) := by decide +kernel
theorem dX9_runner_1 : decode cX9_runner 1 = .ok (.ifCond .lt 14, 3) := by decide +kernel
theorem dX9_runner_4 : decode cX9_runner 4 = .ok (.iload_n 1, 1) := by decide +kernel
theorem dX9_runner_5 : decode cX9_runner 5 = .ok (.aload_n 0, 1) := by decide +kernel
theorem dX9_runner_6 : decode cX9_runner 6 = .ok (.getfield 64, 3) := by decide +kernel
theorem dX9_runner_9 : decode cX9_runner 9 = .ok (.getfield 197, 3) := by decide +kernel
theorem dX9_runner_12 : decode cX9_runner 12 = .ok (.if_icmp .lt 5, 3) := by decide +kernel
theorem dX9_runner_15 : decode cX9_runner 15 = .ok (.iconst (-1), 1) := by decide +kernel
theorem dX9_runner_16 : decode cX9_runner 16 = .ok (.ireturn, 1) := by decide +kernel
theorem dX9_runner_17 : decode cX9_runner 17 = .ok (.iload_n 2, 1) := by decide +kernel
theorem dX9_runner_18 : decode cX9_runner 18 = .ok (.tableswitch 62 0 2 #[26, 36, 46], 26) := by decide +kernel
theorem dX9_runner_44 : decode cX9_runner 44 = .ok (.aload_n 0, 1) := by decide +kernel
theorem dX9_runner_45 : decode cX9_runner 45 = .ok (.getfield 64, 3) := by decide +kernel
theorem dX9_runner_48 : decode cX9_runner 48 = .ok (.getfield 200, 3) := by decide +kernel
theorem dX9_runner_51 : decode cX9_runner 51 = .ok (.iload_n 1, 1) := by decide +kernel
theorem dX9_runner_52 : decode cX9_runner 52 = .ok (.iaload, 1) := by decide +kernel
theorem dX9_runner_53 : decode cX9_runner 53 = .ok (.ireturn, 1) := by decide +kernel
theorem dX9_runner_54 : decode cX9_runner 54 = .ok (.aload_n 0, 1) := by decide +kernel
theorem dX9_runner_55 : decode cX9_runner 55 = .ok (.getfield 64, 3) := by decide +kernel
theorem dX9_runner_58 : decode cX9_runner 58 = .ok (.getfield 203, 3) := by decide +kernel
theorem dX9_runner_61 : decode cX9_runner 61 = .ok (.iload_n 1, 1) := by decide +kernel
theorem dX9_runner_62 : decode cX9_runner 62 = .ok (.iaload, 1) := by decide +kernel
theorem dX9_runner_63 : decode cX9_runner 63 = .ok (.ireturn, 1) := by decide +kernel
theorem dX9_runner_64 : decode cX9_runner 64 = .ok (.aload_n 0, 1) := by decide +kernel
theorem dX9_runner_65 : decode cX9_runner 65 = .ok (.getfield 64, 3) := by decide +kernel
theorem dX9_runner_68 : decode cX9_runner 68 = .ok (.iload_n 1, 1) := by decide +kernel
theorem dX9_runner_69 : decode cX9_runner 69 = .ok (.aload_n 0, 1) := by decide +kernel
theorem dX9_runner_70 : decode cX9_runner 70 = .ok (.getfield 19, 3) := by decide +kernel
theorem dX9_runner_73 : decode cX9_runner 73 = .ok (.getfield 206, 3) := by decide +kernel
theorem dX9_runner_76 : decode cX9_runner 76 = .ok (.invokevirtual 209, 3) := by decide +kernel
theorem dX9_runner_79 : decode cX9_runner 79 = .ok (.ireturn, 1) := by decide +kernel
theorem dX9_runner_80 : decode cX9_runner 80 = .ok (.iconst (-1), 1) := by decide +kernel
theorem dX9_runner_81 : decode cX9_runner 81 = .ok (.ireturn, 1) := by decide +kernel
theorem dX9_count_0 : decode cX9_count 0 = .ok (.iload_n 1, 1) := by decide +kernel
theorem dX9_count_1 : decode cX9_count 1 = .ok (.ifCond .lt 18, 3) := by decide +kernel
theorem dX9_count_4 : decode cX9_count 4 = .ok (.iload_n 1, 1) := by decide +kernel
theorem dX9_count_5 : decode cX9_count 5 = .ok (.iconst 5, 1) := by decide +kernel
theorem dX9_count_6 : decode cX9_count 6 = .ok (.if_icmp .ge 13, 3) := by decide +kernel
theorem dX9_count_9 : decode cX9_count 9 = .ok (.aload_n 0, 1) := by decide +kernel
theorem dX9_count_10 : decode cX9_count 10 = .ok (.getfield 64, 3) := by decide +kernel
theorem dX9_count_13 : decode cX9_count 13 = .ok (.getfield 213, 3) := by decide +kernel
theorem dX9_count_16 : decode cX9_count 16 = .ok (.iload_n 1, 1) := by decide +kernel
theorem dX9_count_17 : decode cX9_count 17 = .ok (.iaload, 1) := by decide +kernel
theorem dX9_count_18 : decode cX9_count 18 = .ok (.ireturn, 1) := by decide +kernel
theorem dX9_count_19 : decode cX9_count 19 = .ok (.iload_n 1, 1) := by decide +kernel
theorem dX9_count_20 : decode cX9_count 20 = .ok (.tableswitch 120 5 12 #[48, 56, 64, 72, 80, 88, 96, 112], 48) := by decide +kernel
theorem dX9_count_68 : decode cX9_count 68 = .ok (.aload_n 0, 1) := by decide +kernel
theorem dX9_count_69 : decode cX9_count 69 = .ok (.getfield 64, 3) := by decide +kernel
theorem dX9_count_72 : decode cX9_count 72 = .ok (.getfield 153, 3) := by decide +kernel
theorem dX9_count_75 : decode cX9_count 75 = .ok (.ireturn, 1) := by decide +kernel
theorem dX9_count_76 : decode cX9_count 76 = .ok (.aload_n 0, 1) := by decide +kernel
theorem dX9_count_77 : decode cX9_count 77 = .ok (.getfield 64, 3) := by decide +kernel
theorem dX9_count_80 : decode cX9_count 80 = .ok (.getfield 180, 3) := by decide +kernel
theorem dX9_count_83 : decode cX9_count 83 = .ok (.ireturn, 1) := by decide +kernel
theorem dX9_count_84 : decode cX9_count 84 = .ok (.aload_n 0, 1) := by decide +kernel
theorem dX9_count_85 : decode cX9_count 85 = .ok (.getfield 64, 3) := by decide +kernel
theorem dX9_count_88 : decode cX9_count 88 = .ok (.getfield 197, 3) := by decide +kernel
theorem dX9_count_91 : decode cX9_count 91 = .ok (.ireturn, 1) := by decide +kernel
theorem dX9_count_92 : decode cX9_count 92 = .ok (.aload_n 0, 1) := by decide +kernel
theorem dX9_count_93 : decode cX9_count 93 = .ok (.getfield 19, 3) := by decide +kernel
theorem dX9_count_96 : decode cX9_count 96 = .ok (.getfield 216, 3) := by decide +kernel
theorem dX9_count_99 : decode cX9_count 99 = .ok (.ireturn, 1) := by decide +kernel
theorem dX9_count_100 : decode cX9_count 100 = .ok (.aload_n 0, 1) := by decide +kernel
theorem dX9_count_101 : decode cX9_count 101 = .ok (.getfield 19, 3) := by decide +kernel
theorem dX9_count_104 : decode cX9_count 104 = .ok (.getfield 219, 3) := by decide +kernel
theorem dX9_count_107 : decode cX9_count 107 = .ok (.ireturn, 1) := by decide +kernel
theorem dX9_count_108 : decode cX9_count 108 = .ok (.aload_n 0, 1) := by decide +kernel
theorem dX9_count_109 : decode cX9_count 109 = .ok (.getfield 19, 3) := by decide +kernel
theorem dX9_count_112 : decode cX9_count 112 = .ok (.getfield 206, 3) := by decide +kernel
theorem dX9_count_115 : decode cX9_count 115 = .ok (.ireturn, 1) := by decide +kernel
theorem dX9_count_116 : decode cX9_count 116 = .ok (.aload_n 0, 1) := by decide +kernel
theorem dX9_count_117 : decode cX9_count 117 = .ok (.getfield 19, 3) := by decide +kernel
theorem dX9_count_120 : decode cX9_count 120 = .ok (.getfield 222, 3) := by decide +kernel
theorem dX9_count_123 : decode cX9_count 123 = .ok (.ifCond .eq 7, 3) := by decide +kernel
theorem dX9_count_126 : decode cX9_count 126 = .ok (.iconst 1, 1) := by decide +kernel
theorem dX9_count_127 : decode cX9_count 127 = .ok (.goto 4, 3) := by decide +kernel
theorem dX9_count_130 : decode cX9_count 130 = .ok (.iconst 0, 1) := by decide +kernel
theorem dX9_count_131 : decode cX9_count 131 = .ok (.ireturn, 1) := by decide +kernel
theorem dX9_count_132 : decode cX9_count 132 = .ok (.aload_n 0, 1) := by decide +kernel
theorem dX9_count_133 : decode cX9_count 133 = .ok (.getfield 12, 3) := by decide +kernel
theorem dX9_count_136 : decode cX9_count 136 = .ok (.getfield 109, 3) := by decide +kernel
theorem dX9_count_139 : decode cX9_count 139 = .ok (.ireturn, 1) := by decide +kernel
theorem dX9_count_140 : decode cX9_count 140 = .ok (.iconst (-1), 1) := by decide +kernel
theorem dX9_count_141 : decode cX9_count 141 = .ok (.ireturn, 1) := by decide +kernel
theorem dX9_start_0 : decode cX9_start 0 = .ok (.aload_n 0, 1) := by decide +kernel
theorem dX9_start_1 : decode cX9_start 1 = .ok (.getfield 19, 3) := by decide +kernel
theorem dX9_start_4 : decode cX9_start 4 = .ok (.getfield 222, 3) := by decide +kernel
theorem dX9_start_7 : decode cX9_start 7 = .ok (.ifCond .ne 5, 3) := by decide +kernel
theorem dX9_start_10 : decode cX9_start 10 = .ok (.iconst (-1), 1) := by decide +kernel
theorem dX9_start_11 : decode cX9_start 11 = .ok (.ireturn, 1) := by decide +kernel
theorem dX9_start_12 : decode cX9_start 12 = .ok (.aload_n 0, 1) := by decide +kernel
theorem dX9_start_13 : decode cX9_start 13 = .ok (.getfield 32, 3) := by decide +kernel
theorem dX9_start_16 : decode cX9_start 16 = .ok (.aload_n 0, 1) := by decide +kernel
theorem dX9_start_17 : decode cX9_start 17 = .ok (.getfield 64, 3) := by decide +kernel
theorem dX9_start_20 : decode cX9_start 20 = .ok (.aload_n 0, 1) := by decide +kernel
theorem dX9_start_21 : decode cX9_start 21 = .ok (.getfield 19, 3) := by decide +kernel
theorem dX9_start_24 : decode cX9_start 24 = .ok (.invokevirtual 225, 3) := by decide +kernel
theorem dX9_start_27 : decode cX9_start 27 = .ok (.pop, 1) := by decide +kernel
theorem dX9_start_28 : decode cX9_start 28 = .ok (.iload_n 1, 1) := by decide +kernel
theorem dX9_start_29 : decode cX9_start 29 = .ok (.tableswitch 75 0 4 #[35, 43, 51, 59, 67], 35) := by decide +kernel
theorem dX9_start_64 : decode cX9_start 64 = .ok (.aload_n 0, 1) := by decide +kernel
theorem dX9_start_65 : decode cX9_start 65 = .ok (.getfield 32, 3) := by decide +kernel
theorem dX9_start_68 : decode cX9_start 68 = .ok (.getfield 229, 3) := by decide +kernel
theorem dX9_start_71 : decode cX9_start 71 = .ok (.ireturn, 1) := by decide +kernel
theorem dX9_start_72 : decode cX9_start 72 = .ok (.aload_n 0, 1) := by decide +kernel
theorem dX9_start_73 : decode cX9_start 73 = .ok (.getfield 32, 3) := by decide +kernel
theorem dX9_start_76 : decode cX9_start 76 = .ok (.getfield 232, 3) := by decide +kernel
theorem dX9_start_79 : decode cX9_start 79 = .ok (.ireturn, 1) := by decide +kernel
theorem dX9_start_80 : decode cX9_start 80 = .ok (.aload_n 0, 1) := by decide +kernel
theorem dX9_start_81 : decode cX9_start 81 = .ok (.getfield 32, 3) := by decide +kernel
theorem dX9_start_84 : decode cX9_start 84 = .ok (.getfield 235, 3) := by decide +kernel
theorem dX9_start_87 : decode cX9_start 87 = .ok (.ireturn, 1) := by decide +kernel
theorem dX9_start_88 : decode cX9_start 88 = .ok (.aload_n 0, 1) := by decide +kernel
theorem dX9_start_89 : decode cX9_start 89 = .ok (.getfield 32, 3) := by decide +kernel
theorem dX9_start_92 : decode cX9_start 92 = .ok (.getfield 238, 3) := by decide +kernel
theorem dX9_start_95 : decode cX9_start 95 = .ok (.ireturn, 1) := by decide +kernel
theorem dX9_start_96 : decode cX9_start 96 = .ok (.aload_n 0, 1) := by decide +kernel
theorem dX9_start_97 : decode cX9_start 97 = .ok (.getfield 32, 3) := by decide +kernel
theorem dX9_start_100 : decode cX9_start 100 = .ok (.getfield 241, 3) := by decide +kernel
theorem dX9_start_103 : decode cX9_start 103 = .ok (.ireturn, 1) := by decide +kernel
theorem dX9_start_104 : decode cX9_start 104 = .ok (.iconst (-1), 1) := by decide +kernel
theorem dX9_start_105 : decode cX9_start 105 = .ok (.ireturn, 1) := by decide +kernel
theorem dX9_pace_0 : decode cX9_pace 0 = .ok (.aload_n 0, 1) := by decide +kernel
theorem dX9_pace_1 : decode cX9_pace 1 = .ok (.getfield 19, 3) := by decide +kernel
theorem dX9_pace_4 : decode cX9_pace 4 = .ok (.getfield 222, 3) := by decide +kernel
theorem dX9_pace_7 : decode cX9_pace 7 = .ok (.ifCond .eq 20, 3) := by decide +kernel
theorem dX9_pace_10 : decode cX9_pace 10 = .ok (.iload_n 1, 1) := by decide +kernel
theorem dX9_pace_11 : decode cX9_pace 11 = .ok (.ifCond .lt 16, 3) := by decide +kernel
theorem dX9_pace_14 : decode cX9_pace 14 = .ok (.iload_n 1, 1) := by decide +kernel
theorem dX9_pace_15 : decode cX9_pace 15 = .ok (.aload_n 0, 1) := by decide +kernel
theorem dX9_pace_16 : decode cX9_pace 16 = .ok (.getfield 64, 3) := by decide +kernel
theorem dX9_pace_19 : decode cX9_pace 19 = .ok (.getfield 213, 3) := by decide +kernel
theorem dX9_pace_22 : decode cX9_pace 22 = .ok (.iconst 0, 1) := by decide +kernel
theorem dX9_pace_23 : decode cX9_pace 23 = .ok (.iaload, 1) := by decide +kernel
theorem dX9_pace_24 : decode cX9_pace 24 = .ok (.if_icmp .lt 5, 3) := by decide +kernel
theorem dX9_pace_27 : decode cX9_pace 27 = .ok (.iconst (-1), 1) := by decide +kernel
theorem dX9_pace_28 : decode cX9_pace 28 = .ok (.ireturn, 1) := by decide +kernel
theorem dX9_pace_29 : decode cX9_pace 29 = .ok (.aload_n 0, 1) := by decide +kernel
theorem dX9_pace_30 : decode cX9_pace 30 = .ok (.getfield 32, 3) := by decide +kernel
theorem dX9_pace_33 : decode cX9_pace 33 = .ok (.aload_n 0, 1) := by decide +kernel
theorem dX9_pace_34 : decode cX9_pace 34 = .ok (.getfield 64, 3) := by decide +kernel
theorem dX9_pace_37 : decode cX9_pace 37 = .ok (.aload_n 0, 1) := by decide +kernel
theorem dX9_pace_38 : decode cX9_pace 38 = .ok (.getfield 19, 3) := by decide +kernel
theorem dX9_pace_41 : decode cX9_pace 41 = .ok (.invokevirtual 225, 3) := by decide +kernel
theorem dX9_pace_44 : decode cX9_pace 44 = .ok (.pop, 1) := by decide +kernel
theorem dX9_pace_45 : decode cX9_pace 45 = .ok (.aload_n 0, 1) := by decide +kernel
theorem dX9_pace_46 : decode cX9_pace 46 = .ok (.getfield 32, 3) := by decide +kernel
theorem dX9_pace_49 : decode cX9_pace 49 = .ok (.getfield 243, 3) := by decide +kernel
theorem dX9_pace_52 : decode cX9_pace 52 = .ok (.iload_n 1, 1) := by decide +kernel
theorem dX9_pace_53 : decode cX9_pace 53 = .ok (.iaload, 1) := by decide +kernel
theorem dX9_pace_54 : decode cX9_pace 54 = .ok (.ireturn, 1) := by decide +kernel
theorem dX9_jumps_0 : decode cX9_jumps 0 = .ok (.aload_n 0, 1) := by decide +kernel
theorem dX9_jumps_1 : decode cX9_jumps 1 = .ok (.getfield 19, 3) := by decide +kernel
theorem dX9_jumps_4 : decode cX9_jumps 4 = .ok (.getfield 222, 3) := by decide +kernel
theorem dX9_jumps_7 : decode cX9_jumps 7 = .ok (.ifCond .eq 12, 3) := by decide +kernel
theorem dX9_jumps_10 : decode cX9_jumps 10 = .ok (.iload_n 1, 1) := by decide +kernel
theorem dX9_jumps_11 : decode cX9_jumps 11 = .ok (.ifCond .lt 8, 3) := by decide +kernel
theorem dX9_jumps_14 : decode cX9_jumps 14 = .ok (.iload_n 1, 1) := by decide +kernel
theorem dX9_jumps_15 : decode cX9_jumps 15 = .ok (.iconst 4, 1) := by decide +kernel
theorem dX9_jumps_16 : decode cX9_jumps 16 = .ok (.if_icmp .lt 5, 3) := by decide +kernel
theorem dX9_jumps_19 : decode cX9_jumps 19 = .ok (.iconst (-1), 1) := by decide +kernel
theorem dX9_jumps_20 : decode cX9_jumps 20 = .ok (.ireturn, 1) := by decide +kernel
theorem dX9_jumps_21 : decode cX9_jumps 21 = .ok (.aload_n 0, 1) := by decide +kernel
theorem dX9_jumps_22 : decode cX9_jumps 22 = .ok (.getfield 32, 3) := by decide +kernel
theorem dX9_jumps_25 : decode cX9_jumps 25 = .ok (.aload_n 0, 1) := by decide +kernel
theorem dX9_jumps_26 : decode cX9_jumps 26 = .ok (.getfield 64, 3) := by decide +kernel
theorem dX9_jumps_29 : decode cX9_jumps 29 = .ok (.aload_n 0, 1) := by decide +kernel
theorem dX9_jumps_30 : decode cX9_jumps 30 = .ok (.getfield 19, 3) := by decide +kernel
theorem dX9_jumps_33 : decode cX9_jumps 33 = .ok (.invokevirtual 225, 3) := by decide +kernel
theorem dX9_jumps_36 : decode cX9_jumps 36 = .ok (.pop, 1) := by decide +kernel
theorem dX9_jumps_37 : decode cX9_jumps 37 = .ok (.aload_n 0, 1) := by decide +kernel
theorem dX9_jumps_38 : decode cX9_jumps 38 = .ok (.getfield 32, 3) := by decide +kernel
theorem dX9_jumps_41 : decode cX9_jumps 41 = .ok (.getfield 246, 3) := by decide +kernel
theorem dX9_jumps_44 : decode cX9_jumps 44 = .ok (.iload_n 1, 1) := by decide +kernel
theorem dX9_jumps_45 : decode cX9_jumps 45 = .ok (.iaload, 1) := by decide +kernel
theorem dX9_jumps_46 : decode cX9_jumps 46 = .ok (.ireturn, 1) := by decide +kernel
theorem dX9_run_0 : decode cX9_run 0 = .ok (.aload_n 0, 1) := by decide +kernel
theorem dX9_run_1 : decode cX9_run 1 = .ok (.getfield 19, 3) := by decide +kernel
theorem dX9_run_4 : decode cX9_run 4 = .ok (.getfield 222, 3) := by decide +kernel
theorem dX9_run_7 : decode cX9_run 7 = .ok (.ifCond .ne 5, 3) := by decide +kernel
theorem dX9_run_10 : decode cX9_run 10 = .ok (.iconst (-1), 1) := by decide +kernel
theorem dX9_run_11 : decode cX9_run 11 = .ok (.ireturn, 1) := by decide +kernel
theorem dX9_run_12 : decode cX9_run 12 = .ok (.aload_n 0, 1) := by decide +kernel
theorem dX9_run_13 : decode cX9_run 13 = .ok (.getfield 32, 3) := by decide +kernel
theorem dX9_run_16 : decode cX9_run 16 = .ok (.aload_n 0, 1) := by decide +kernel
theorem dX9_run_17 : decode cX9_run 17 = .ok (.getfield 64, 3) := by decide +kernel
theorem dX9_run_20 : decode cX9_run 20 = .ok (.aload_n 0, 1) := by decide +kernel
theorem dX9_run_21 : decode cX9_run 21 = .ok (.getfield 19, 3) := by decide +kernel
theorem dX9_run_24 : decode cX9_run 24 = .ok (.invokevirtual 225, 3) := by decide +kernel
theorem dX9_run_27 : decode cX9_run 27 = .ok (.pop, 1) := by decide +kernel
theorem dX9_run_28 : decode cX9_run 28 = .ok (.iload_n 1, 1) := by decide +kernel
theorem dX9_run_29 : decode cX9_run 29 = .ok (.tableswitch 63 0 3 #[31, 39, 47, 55], 31) := by decide +kernel
theorem dX9_run_60 : decode cX9_run 60 = .ok (.aload_n 0, 1) := by decide +kernel
theorem dX9_run_61 : decode cX9_run 61 = .ok (.getfield 32, 3) := by decide +kernel
theorem dX9_run_64 : decode cX9_run 64 = .ok (.getfield 249, 3) := by decide +kernel
theorem dX9_run_67 : decode cX9_run 67 = .ok (.ireturn, 1) := by decide +kernel
theorem dX9_run_68 : decode cX9_run 68 = .ok (.aload_n 0, 1) := by decide +kernel
theorem dX9_run_69 : decode cX9_run 69 = .ok (.getfield 32, 3) := by decide +kernel
theorem dX9_run_72 : decode cX9_run 72 = .ok (.getfield 252, 3) := by decide +kernel
theorem dX9_run_75 : decode cX9_run 75 = .ok (.ireturn, 1) := by decide +kernel
theorem dX9_run_76 : decode cX9_run 76 = .ok (.aload_n 0, 1) := by decide +kernel
theorem dX9_run_77 : decode cX9_run 77 = .ok (.getfield 32, 3) := by decide +kernel
theorem dX9_run_80 : decode cX9_run 80 = .ok (.getfield 255, 3) := by decide +kernel
theorem dX9_run_83 : decode cX9_run 83 = .ok (.ireturn, 1) := by decide +kernel
theorem dX9_run_84 : decode cX9_run 84 = .ok (.aload_n 0, 1) := by decide +kernel
theorem dX9_run_85 : decode cX9_run 85 = .ok (.getfield 32, 3) := by decide +kernel
theorem dX9_run_88 : decode cX9_run 88 = .ok (.getfield 258, 3) := by decide +kernel
theorem dX9_run_91 : decode cX9_run 91 = .ok (.ireturn, 1) := by decide +kernel
theorem dX9_run_92 : decode cX9_run 92 = .ok (.iconst (-1), 1) := by decide +kernel
theorem dX9_run_93 : decode cX9_run 93 = .ok (.ireturn, 1) := by decide +kernel
theorem dX9_behind_0 : decode cX9_behind 0 = .ok (.aload_n 0, 1) := by decide +kernel
theorem dX9_behind_1 : decode cX9_behind 1 = .ok (.getfield 19, 3) := by decide +kernel
theorem dX9_behind_4 : decode cX9_behind 4 = .ok (.getfield 222, 3) := by decide +kernel
theorem dX9_behind_7 : decode cX9_behind 7 = .ok (.ifCond .eq 18, 3) := by decide +kernel
theorem dX9_behind_10 : decode cX9_behind 10 = .ok (.iload_n 1, 1) := by decide +kernel
theorem dX9_behind_11 : decode cX9_behind 11 = .ok (.ifCond .lt 14, 3) := by decide +kernel
theorem dX9_behind_14 : decode cX9_behind 14 = .ok (.iload_n 1, 1) := by decide +kernel
theorem dX9_behind_15 : decode cX9_behind 15 = .ok (.aload_n 0, 1) := by decide +kernel
theorem dX9_behind_16 : decode cX9_behind 16 = .ok (.getfield 64, 3) := by decide +kernel
theorem dX9_behind_19 : decode cX9_behind 19 = .ok (.getfield 180, 3) := by decide +kernel
theorem dX9_behind_22 : decode cX9_behind 22 = .ok (.if_icmp .lt 5, 3) := by decide +kernel
theorem dX9_behind_25 : decode cX9_behind 25 = .ok (.iconst (-1), 1) := by decide +kernel
theorem dX9_behind_26 : decode cX9_behind 26 = .ok (.ireturn, 1) := by decide +kernel
theorem dX9_behind_27 : decode cX9_behind 27 = .ok (.aload_n 0, 1) := by decide +kernel
theorem dX9_behind_28 : decode cX9_behind 28 = .ok (.getfield 32, 3) := by decide +kernel
theorem dX9_behind_31 : decode cX9_behind 31 = .ok (.aload_n 0, 1) := by decide +kernel
theorem dX9_behind_32 : decode cX9_behind 32 = .ok (.getfield 64, 3) := by decide +kernel
theorem dX9_behind_35 : decode cX9_behind 35 = .ok (.aload_n 0, 1) := by decide +kernel
theorem dX9_behind_36 : decode cX9_behind 36 = .ok (.getfield 19, 3) := by decide +kernel
theorem dX9_behind_39 : decode cX9_behind 39 = .ok (.invokevirtual 225, 3) := by decide +kernel
theorem dX9_behind_42 : decode cX9_behind 42 = .ok (.pop, 1) := by decide +kernel
theorem dX9_behind_43 : decode cX9_behind 43 = .ok (.iload_n 1, 1) := by decide +kernel
theorem dX9_behind_44 : decode cX9_behind 44 = .ok (.aload_n 0, 1) := by decide +kernel
theorem dX9_behind_45 : decode cX9_behind 45 = .ok (.getfield 32, 3) := by decide +kernel
theorem dX9_behind_48 : decode cX9_behind 48 = .ok (.getfield 255, 3) := by decide +kernel
theorem dX9_behind_51 : decode cX9_behind 51 = .ok (.if_icmp .ge 15, 3) := by decide +kernel
theorem dX9_behind_54 : decode cX9_behind 54 = .ok (.aload_n 0, 1) := by decide +kernel
theorem dX9_behind_55 : decode cX9_behind 55 = .ok (.getfield 32, 3) := by decide +kernel
theorem dX9_behind_58 : decode cX9_behind 58 = .ok (.getfield 261, 3) := by decide +kernel
theorem dX9_behind_61 : decode cX9_behind 61 = .ok (.iload_n 1, 1) := by decide +kernel
theorem dX9_behind_62 : decode cX9_behind 62 = .ok (.iaload, 1) := by decide +kernel
theorem dX9_behind_63 : decode cX9_behind 63 = .ok (.goto 4, 3) := by decide +kernel
theorem dX9_behind_66 : decode cX9_behind 66 = .ok (.iconst (-1), 1) := by decide +kernel
theorem dX9_behind_67 : decode cX9_behind 67 = .ok (.ireturn, 1) := by decide +kernel
theorem dX9_room_0 : decode cX9_room 0 = .ok (.aload_n 0, 1) := by decide +kernel
theorem dX9_room_1 : decode cX9_room 1 = .ok (.getfield 19, 3) := by decide +kernel
theorem dX9_room_4 : decode cX9_room 4 = .ok (.getfield 222, 3) := by decide +kernel
theorem dX9_room_7 : decode cX9_room 7 = .ok (.ifCond .ne 5, 3) := by decide +kernel
theorem dX9_room_10 : decode cX9_room 10 = .ok (.iconst (-1), 1) := by decide +kernel
theorem dX9_room_11 : decode cX9_room 11 = .ok (.ireturn, 1) := by decide +kernel
theorem dX9_room_12 : decode cX9_room 12 = .ok (.aload_n 0, 1) := by decide +kernel
theorem dX9_room_13 : decode cX9_room 13 = .ok (.getfield 32, 3) := by decide +kernel
theorem dX9_room_16 : decode cX9_room 16 = .ok (.aload_n 0, 1) := by decide +kernel
theorem dX9_room_17 : decode cX9_room 17 = .ok (.getfield 64, 3) := by decide +kernel
theorem dX9_room_20 : decode cX9_room 20 = .ok (.aload_n 0, 1) := by decide +kernel
theorem dX9_room_21 : decode cX9_room 21 = .ok (.getfield 19, 3) := by decide +kernel
theorem dX9_room_24 : decode cX9_room 24 = .ok (.invokevirtual 225, 3) := by decide +kernel
theorem dX9_room_27 : decode cX9_room 27 = .ok (.pop, 1) := by decide +kernel
theorem dX9_room_28 : decode cX9_room 28 = .ok (.aload_n 0, 1) := by decide +kernel
theorem dX9_room_29 : decode cX9_room 29 = .ok (.getfield 64, 3) := by decide +kernel
theorem dX9_room_32 : decode cX9_room 32 = .ok (.getfield 213, 3) := by decide +kernel
theorem dX9_room_35 : decode cX9_room 35 = .ok (.iconst 2, 1) := by decide +kernel
theorem dX9_room_36 : decode cX9_room 36 = .ok (.iaload, 1) := by decide +kernel
theorem dX9_room_37 : decode cX9_room 37 = .ok (.aload_n 0, 1) := by decide +kernel
theorem dX9_room_38 : decode cX9_room 38 = .ok (.getfield 32, 3) := by decide +kernel
theorem dX9_room_41 : decode cX9_room 41 = .ok (.getfield 241, 3) := by decide +kernel
theorem dX9_room_44 : decode cX9_room 44 = .ok (.aload_n 0, 1) := by decide +kernel
theorem dX9_room_45 : decode cX9_room 45 = .ok (.getfield 19, 3) := by decide +kernel
theorem dX9_room_48 : decode cX9_room 48 = .ok (.getfield 216, 3) := by decide +kernel
theorem dX9_room_51 : decode cX9_room 51 = .ok (.isub, 1) := by decide +kernel
theorem dX9_room_52 : decode cX9_room 52 = .ok (.isub, 1) := by decide +kernel
theorem dX9_room_53 : decode cX9_room 53 = .ok (.istore_n 1, 1) := by decide +kernel
theorem dX9_room_54 : decode cX9_room 54 = .ok (.iload_n 1, 1) := by decide +kernel
theorem dX9_room_55 : decode cX9_room 55 = .ok (.ifCond .ge 7, 3) := by decide +kernel
theorem dX9_room_58 : decode cX9_room 58 = .ok (.iconst (-1), 1) := by decide +kernel
theorem dX9_room_59 : decode cX9_room 59 = .ok (.goto 9, 3) := by decide +kernel
theorem dX9_room_62 : decode cX9_room 62 = .ok (.bipush 99, 2) := by decide +kernel
theorem dX9_room_64 : decode cX9_room 64 = .ok (.iload_n 1, 1) := by decide +kernel
theorem dX9_room_65 : decode cX9_room 65 = .ok (.invokestatic 264, 3) := by decide +kernel
theorem dX9_room_68 : decode cX9_room 68 = .ok (.ireturn, 1) := by decide +kernel
theorem dX9_jump_0 : decode cX9_jump 0 = .ok (.aload_n 0, 1) := by decide +kernel
theorem dX9_jump_1 : decode cX9_jump 1 = .ok (.getfield 19, 3) := by decide +kernel
theorem dX9_jump_4 : decode cX9_jump 4 = .ok (.getfield 222, 3) := by decide +kernel
theorem dX9_jump_7 : decode cX9_jump 7 = .ok (.ifCond .eq 42, 3) := by decide +kernel
theorem dX9_jump_10 : decode cX9_jump 10 = .ok (.iload_n 1, 1) := by decide +kernel
theorem dX9_jump_11 : decode cX9_jump 11 = .ok (.ifCond .lt 38, 3) := by decide +kernel
theorem dX9_jump_14 : decode cX9_jump 14 = .ok (.iload_n 1, 1) := by decide +kernel
theorem dX9_jump_15 : decode cX9_jump 15 = .ok (.iconst 4, 1) := by decide +kernel
theorem dX9_jump_16 : decode cX9_jump 16 = .ok (.if_icmp .ge 33, 3) := by decide +kernel
theorem dX9_jump_19 : decode cX9_jump 19 = .ok (.iload_n 2, 1) := by decide +kernel
theorem dX9_jump_20 : decode cX9_jump 20 = .ok (.ifCond .lt 29, 3) := by decide +kernel
theorem dX9_jump_23 : decode cX9_jump 23 = .ok (.iload_n 2, 1) := by decide +kernel
theorem dX9_jump_24 : decode cX9_jump 24 = .ok (.aload_n 0, 1) := by decide +kernel
theorem dX9_jump_25 : decode cX9_jump 25 = .ok (.getfield 64, 3) := by decide +kernel
theorem dX9_jump_28 : decode cX9_jump 28 = .ok (.getfield 213, 3) := by decide +kernel
theorem dX9_jump_31 : decode cX9_jump 31 = .ok (.iconst 0, 1) := by decide +kernel
theorem dX9_jump_32 : decode cX9_jump 32 = .ok (.iaload, 1) := by decide +kernel
theorem dX9_jump_33 : decode cX9_jump 33 = .ok (.if_icmp .ge 16, 3) := by decide +kernel
theorem dX9_jump_36 : decode cX9_jump 36 = .ok (.aload_n 0, 1) := by decide +kernel
theorem dX9_jump_37 : decode cX9_jump 37 = .ok (.getfield 19, 3) := by decide +kernel
theorem dX9_jump_40 : decode cX9_jump 40 = .ok (.getfield 177, 3) := by decide +kernel
theorem dX9_jump_43 : decode cX9_jump 43 = .ok (.iload_n 1, 1) := by decide +kernel
theorem dX9_jump_44 : decode cX9_jump 44 = .ok (.iaload, 1) := by decide +kernel
theorem dX9_jump_45 : decode cX9_jump 45 = .ok (.iload_n 2, 1) := by decide +kernel
theorem dX9_jump_46 : decode cX9_jump 46 = .ok (.if_icmp .ne 5, 3) := by decide +kernel
theorem dX9_jump_49 : decode cX9_jump 49 = .ok (.iconst 0, 1) := by decide +kernel
theorem dX9_jump_50 : decode cX9_jump 50 = .ok (.ireturn, 1) := by decide +kernel
theorem dX9_jump_51 : decode cX9_jump 51 = .ok (.aload_n 0, 1) := by decide +kernel
theorem dX9_jump_52 : decode cX9_jump 52 = .ok (.invokevirtual 269, 3) := by decide +kernel
theorem dX9_jump_55 : decode cX9_jump 55 = .ok (.aload_n 0, 1) := by decide +kernel
theorem dX9_jump_56 : decode cX9_jump 56 = .ok (.getfield 19, 3) := by decide +kernel
theorem dX9_jump_59 : decode cX9_jump 59 = .ok (.getfield 177, 3) := by decide +kernel
theorem dX9_jump_62 : decode cX9_jump 62 = .ok (.iload_n 1, 1) := by decide +kernel
theorem dX9_jump_63 : decode cX9_jump 63 = .ok (.iload_n 2, 1) := by decide +kernel
theorem dX9_jump_64 : decode cX9_jump 64 = .ok (.iastore, 1) := by decide +kernel
theorem dX9_jump_65 : decode cX9_jump 65 = .ok (.iconst 1, 1) := by decide +kernel
theorem dX9_jump_66 : decode cX9_jump 66 = .ok (.ireturn, 1) := by decide +kernel
theorem dX9_high_0 : decode cX9_high 0 = .ok (.iload_n 1, 1) := by decide +kernel
theorem dX9_high_1 : decode cX9_high 1 = .ok (.ifCond .lt 37, 3) := by decide +kernel
theorem dX9_high_4 : decode cX9_high 4 = .ok (.iload_n 1, 1) := by decide +kernel
theorem dX9_high_5 : decode cX9_high 5 = .ok (.aload_n 0, 1) := by decide +kernel
theorem dX9_high_6 : decode cX9_high 6 = .ok (.getfield 64, 3) := by decide +kernel
theorem dX9_high_9 : decode cX9_high 9 = .ok (.getfield 180, 3) := by decide +kernel
theorem dX9_high_12 : decode cX9_high 12 = .ok (.if_icmp .ge 26, 3) := by decide +kernel
theorem dX9_high_15 : decode cX9_high 15 = .ok (.iload_n 2, 1) := by decide +kernel
theorem dX9_high_16 : decode cX9_high 16 = .ok (.ifCond .lt 22, 3) := by decide +kernel
theorem dX9_high_19 : decode cX9_high 19 = .ok (.iload_n 2, 1) := by decide +kernel
theorem dX9_high_20 : decode cX9_high 20 = .ok (.bipush 9, 2) := by decide +kernel
theorem dX9_high_22 : decode cX9_high 22 = .ok (.if_icmp .gt 16, 3) := by decide +kernel
theorem dX9_high_25 : decode cX9_high 25 = .ok (.aload_n 0, 1) := by decide +kernel
theorem dX9_high_26 : decode cX9_high 26 = .ok (.getfield 19, 3) := by decide +kernel
theorem dX9_high_29 : decode cX9_high 29 = .ok (.getfield 194, 3) := by decide +kernel
theorem dX9_high_32 : decode cX9_high 32 = .ok (.iload_n 1, 1) := by decide +kernel
theorem dX9_high_33 : decode cX9_high 33 = .ok (.iaload, 1) := by decide +kernel
theorem dX9_high_34 : decode cX9_high 34 = .ok (.iload_n 2, 1) := by decide +kernel
theorem dX9_high_35 : decode cX9_high 35 = .ok (.if_icmp .ne 5, 3) := by decide +kernel
theorem dX9_high_38 : decode cX9_high 38 = .ok (.iconst 0, 1) := by decide +kernel
theorem dX9_high_39 : decode cX9_high 39 = .ok (.ireturn, 1) := by decide +kernel
theorem dX9_high_40 : decode cX9_high 40 = .ok (.aload_n 0, 1) := by decide +kernel
theorem dX9_high_41 : decode cX9_high 41 = .ok (.invokevirtual 269, 3) := by decide +kernel
theorem dX9_high_44 : decode cX9_high 44 = .ok (.aload_n 0, 1) := by decide +kernel
theorem dX9_high_45 : decode cX9_high 45 = .ok (.getfield 19, 3) := by decide +kernel
theorem dX9_high_48 : decode cX9_high 48 = .ok (.getfield 194, 3) := by decide +kernel
theorem dX9_high_51 : decode cX9_high 51 = .ok (.iload_n 1, 1) := by decide +kernel
theorem dX9_high_52 : decode cX9_high 52 = .ok (.iload_n 2, 1) := by decide +kernel
theorem dX9_high_53 : decode cX9_high 53 = .ok (.iastore, 1) := by decide +kernel
theorem dX9_high_54 : decode cX9_high 54 = .ok (.iconst 1, 1) := by decide +kernel
theorem dX9_high_55 : decode cX9_high 55 = .ok (.ireturn, 1) := by decide +kernel
theorem dX9_set_0 : decode cX9_set 0 = .ok (.iload_n 1, 1) := by decide +kernel
theorem dX9_set_1 : decode cX9_set 1 = .ok (.tableswitch 45 0 2 #[27, 33, 39], 27) := by decide +kernel
theorem dX9_set_28 : decode cX9_set 28 = .ok (.aload_n 0, 1) := by decide +kernel
theorem dX9_set_29 : decode cX9_set 29 = .ok (.iload_n 2, 1) := by decide +kernel
theorem dX9_set_30 : decode cX9_set 30 = .ok (.invokevirtual 272, 3) := by decide +kernel
theorem dX9_set_33 : decode cX9_set 33 = .ok (.ireturn, 1) := by decide +kernel
theorem dX9_set_34 : decode cX9_set 34 = .ok (.aload_n 0, 1) := by decide +kernel
theorem dX9_set_35 : decode cX9_set 35 = .ok (.iload_n 2, 1) := by decide +kernel
theorem dX9_set_36 : decode cX9_set 36 = .ok (.invokevirtual 276, 3) := by decide +kernel
theorem dX9_set_39 : decode cX9_set 39 = .ok (.ireturn, 1) := by decide +kernel
theorem dX9_set_40 : decode cX9_set 40 = .ok (.aload_n 0, 1) := by decide +kernel
theorem dX9_set_41 : decode cX9_set 41 = .ok (.iload_n 2, 1) := by decide +kernel
theorem dX9_set_42 : decode cX9_set 42 = .ok (.invokevirtual 279, 3) := by decide +kernel
theorem dX9_set_45 : decode cX9_set 45 = .ok (.ireturn, 1) := by decide +kernel
theorem dX9_set_46 : decode cX9_set 46 = .ok (.iconst 0, 1) := by decide +kernel
theorem dX9_set_47 : decode cX9_set 47 = .ok (.ireturn, 1) := by decide +kernel
theorem dX9_changeLead_0 : decode cX9_changeLead 0 = .ok (.iload_n 1, 1) := by decide +kernel
theorem dX9_changeLead_1 : decode cX9_changeLead 1 = .ok (.ifCond .lt 20, 3) := by decide +kernel
theorem dX9_changeLead_4 : decode cX9_changeLead 4 = .ok (.iload_n 1, 1) := by decide +kernel
theorem dX9_changeLead_5 : decode cX9_changeLead 5 = .ok (.bipush 99, 2) := by decide +kernel
theorem dX9_changeLead_7 : decode cX9_changeLead 7 = .ok (.if_icmp .gt 14, 3) := by decide +kernel
theorem dX9_changeLead_10 : decode cX9_changeLead 10 = .ok (.iload_n 1, 1) := by decide +kernel
theorem dX9_changeLead_11 : decode cX9_changeLead 11 = .ok (.aload_n 0, 1) := by decide +kernel
theorem dX9_changeLead_12 : decode cX9_changeLead 12 = .ok (.getfield 19, 3) := by decide +kernel
theorem dX9_changeLead_15 : decode cX9_changeLead 15 = .ok (.getfield 216, 3) := by decide +kernel
theorem dX9_changeLead_18 : decode cX9_changeLead 18 = .ok (.if_icmp .ne 5, 3) := by decide +kernel
theorem dX9_changeLead_21 : decode cX9_changeLead 21 = .ok (.iconst 0, 1) := by decide +kernel
theorem dX9_changeLead_22 : decode cX9_changeLead 22 = .ok (.ireturn, 1) := by decide +kernel
theorem dX9_changeLead_23 : decode cX9_changeLead 23 = .ok (.aload_n 0, 1) := by decide +kernel
theorem dX9_changeLead_24 : decode cX9_changeLead 24 = .ok (.invokevirtual 269, 3) := by decide +kernel
theorem dX9_changeLead_27 : decode cX9_changeLead 27 = .ok (.aload_n 0, 1) := by decide +kernel
theorem dX9_changeLead_28 : decode cX9_changeLead 28 = .ok (.getfield 19, 3) := by decide +kernel
theorem dX9_changeLead_31 : decode cX9_changeLead 31 = .ok (.iload_n 1, 1) := by decide +kernel
theorem dX9_changeLead_32 : decode cX9_changeLead 32 = .ok (.putfield 216, 3) := by decide +kernel
theorem dX9_changeLead_35 : decode cX9_changeLead 35 = .ok (.iconst 1, 1) := by decide +kernel
theorem dX9_changeLead_36 : decode cX9_changeLead 36 = .ok (.ireturn, 1) := by decide +kernel
theorem dX9_changeRunner_0 : decode cX9_changeRunner 0 = .ok (.iload_n 1, 1) := by decide +kernel
theorem dX9_changeRunner_1 : decode cX9_changeRunner 1 = .ok (.ifCond .lt 25, 3) := by decide +kernel
theorem dX9_changeRunner_4 : decode cX9_changeRunner 4 = .ok (.iload_n 1, 1) := by decide +kernel
theorem dX9_changeRunner_5 : decode cX9_changeRunner 5 = .ok (.aload_n 0, 1) := by decide +kernel
theorem dX9_changeRunner_6 : decode cX9_changeRunner 6 = .ok (.getfield 64, 3) := by decide +kernel
theorem dX9_changeRunner_9 : decode cX9_changeRunner 9 = .ok (.getfield 197, 3) := by decide +kernel
theorem dX9_changeRunner_12 : decode cX9_changeRunner 12 = .ok (.if_icmp .ge 14, 3) := by decide +kernel
theorem dX9_changeRunner_15 : decode cX9_changeRunner 15 = .ok (.iload_n 1, 1) := by decide +kernel
theorem dX9_changeRunner_16 : decode cX9_changeRunner 16 = .ok (.aload_n 0, 1) := by decide +kernel
theorem dX9_changeRunner_17 : decode cX9_changeRunner 17 = .ok (.getfield 19, 3) := by decide +kernel
theorem dX9_changeRunner_20 : decode cX9_changeRunner 20 = .ok (.getfield 219, 3) := by decide +kernel
theorem dX9_changeRunner_23 : decode cX9_changeRunner 23 = .ok (.if_icmp .ne 5, 3) := by decide +kernel
theorem dX9_changeRunner_26 : decode cX9_changeRunner 26 = .ok (.iconst 0, 1) := by decide +kernel
theorem dX9_changeRunner_27 : decode cX9_changeRunner 27 = .ok (.ireturn, 1) := by decide +kernel
theorem dX9_changeRunner_28 : decode cX9_changeRunner 28 = .ok (.aload_n 0, 1) := by decide +kernel
theorem dX9_changeRunner_29 : decode cX9_changeRunner 29 = .ok (.invokevirtual 269, 3) := by decide +kernel
theorem dX9_changeRunner_32 : decode cX9_changeRunner 32 = .ok (.aload_n 0, 1) := by decide +kernel
theorem dX9_changeRunner_33 : decode cX9_changeRunner 33 = .ok (.getfield 19, 3) := by decide +kernel
theorem dX9_changeRunner_36 : decode cX9_changeRunner 36 = .ok (.iload_n 1, 1) := by decide +kernel
theorem dX9_changeRunner_37 : decode cX9_changeRunner 37 = .ok (.putfield 219, 3) := by decide +kernel
theorem dX9_changeRunner_40 : decode cX9_changeRunner 40 = .ok (.iconst 1, 1) := by decide +kernel
theorem dX9_changeRunner_41 : decode cX9_changeRunner 41 = .ok (.ireturn, 1) := by decide +kernel
theorem dX9_changeNumber_0 : decode cX9_changeNumber 0 = .ok (.iload_n 1, 1) := by decide +kernel
theorem dX9_changeNumber_1 : decode cX9_changeNumber 1 = .ok (.invokestatic 282, 3) := by decide +kernel
theorem dX9_changeNumber_4 : decode cX9_changeNumber 4 = .ok (.ifCond .eq 14, 3) := by decide +kernel
theorem dX9_changeNumber_7 : decode cX9_changeNumber 7 = .ok (.iload_n 1, 1) := by decide +kernel
theorem dX9_changeNumber_8 : decode cX9_changeNumber 8 = .ok (.aload_n 0, 1) := by decide +kernel
theorem dX9_changeNumber_9 : decode cX9_changeNumber 9 = .ok (.getfield 19, 3) := by decide +kernel
theorem dX9_changeNumber_12 : decode cX9_changeNumber 12 = .ok (.getfield 206, 3) := by decide +kernel
theorem dX9_changeNumber_15 : decode cX9_changeNumber 15 = .ok (.if_icmp .ne 5, 3) := by decide +kernel
theorem dX9_changeNumber_18 : decode cX9_changeNumber 18 = .ok (.iconst 0, 1) := by decide +kernel
theorem dX9_changeNumber_19 : decode cX9_changeNumber 19 = .ok (.ireturn, 1) := by decide +kernel
theorem dX9_changeNumber_20 : decode cX9_changeNumber 20 = .ok (.aload_n 0, 1) := by decide +kernel
theorem dX9_changeNumber_21 : decode cX9_changeNumber 21 = .ok (.invokevirtual 269, 3) := by decide +kernel
theorem dX9_changeNumber_24 : decode cX9_changeNumber 24 = .ok (.aload_n 0, 1) := by decide +kernel
theorem dX9_changeNumber_25 : decode cX9_changeNumber 25 = .ok (.getfield 19, 3) := by decide +kernel
theorem dX9_changeNumber_28 : decode cX9_changeNumber 28 = .ok (.iload_n 1, 1) := by decide +kernel
theorem dX9_changeNumber_29 : decode cX9_changeNumber 29 = .ok (.putfield 206, 3) := by decide +kernel
theorem dX9_changeNumber_32 : decode cX9_changeNumber 32 = .ok (.iconst 1, 1) := by decide +kernel
theorem dX9_changeNumber_33 : decode cX9_changeNumber 33 = .ok (.ireturn, 1) := by decide +kernel
theorem dX9_swap_0 : decode cX9_swap 0 = .ok (.aload_n 0, 1) := by decide +kernel
theorem dX9_swap_1 : decode cX9_swap 1 = .ok (.getfield 19, 3) := by decide +kernel
theorem dX9_swap_4 : decode cX9_swap 4 = .ok (.getfield 222, 3) := by decide +kernel
theorem dX9_swap_7 : decode cX9_swap 7 = .ok (.ifCond .eq 26, 3) := by decide +kernel
theorem dX9_swap_10 : decode cX9_swap 10 = .ok (.iload_n 1, 1) := by decide +kernel
theorem dX9_swap_11 : decode cX9_swap 11 = .ok (.ifCond .lt 22, 3) := by decide +kernel
theorem dX9_swap_14 : decode cX9_swap 14 = .ok (.iload_n 1, 1) := by decide +kernel
theorem dX9_swap_15 : decode cX9_swap 15 = .ok (.iconst 4, 1) := by decide +kernel
theorem dX9_swap_16 : decode cX9_swap 16 = .ok (.if_icmp .ge 17, 3) := by decide +kernel
theorem dX9_swap_19 : decode cX9_swap 19 = .ok (.iload_n 2, 1) := by decide +kernel
theorem dX9_swap_20 : decode cX9_swap 20 = .ok (.ifCond .lt 13, 3) := by decide +kernel
theorem dX9_swap_23 : decode cX9_swap 23 = .ok (.iload_n 2, 1) := by decide +kernel
theorem dX9_swap_24 : decode cX9_swap 24 = .ok (.iconst 4, 1) := by decide +kernel
theorem dX9_swap_25 : decode cX9_swap 25 = .ok (.if_icmp .ge 8, 3) := by decide +kernel
theorem dX9_swap_28 : decode cX9_swap 28 = .ok (.iload_n 1, 1) := by decide +kernel
theorem dX9_swap_29 : decode cX9_swap 29 = .ok (.iload_n 2, 1) := by decide +kernel
theorem dX9_swap_30 : decode cX9_swap 30 = .ok (.if_icmp .ne 5, 3) := by decide +kernel
theorem dX9_swap_33 : decode cX9_swap 33 = .ok (.iconst 0, 1) := by decide +kernel
theorem dX9_swap_34 : decode cX9_swap 34 = .ok (.ireturn, 1) := by decide +kernel
theorem dX9_swap_35 : decode cX9_swap 35 = .ok (.aload_n 0, 1) := by decide +kernel
theorem dX9_swap_36 : decode cX9_swap 36 = .ok (.invokevirtual 269, 3) := by decide +kernel
theorem dX9_swap_39 : decode cX9_swap 39 = .ok (.aload_n 0, 1) := by decide +kernel
theorem dX9_swap_40 : decode cX9_swap 40 = .ok (.getfield 19, 3) := by decide +kernel
theorem dX9_swap_43 : decode cX9_swap 43 = .ok (.getfield 285, 3) := by decide +kernel
theorem dX9_swap_46 : decode cX9_swap 46 = .ok (.iload_n 1, 1) := by decide +kernel
theorem dX9_swap_47 : decode cX9_swap 47 = .ok (.iaload, 1) := by decide +kernel
theorem dX9_swap_48 : decode cX9_swap 48 = .ok (.istore_n 3, 1) := by decide +kernel
theorem dX9_swap_49 : decode cX9_swap 49 = .ok (.aload_n 0, 1) := by decide +kernel
theorem dX9_swap_50 : decode cX9_swap 50 = .ok (.getfield 19, 3) := by decide +kernel
theorem dX9_swap_53 : decode cX9_swap 53 = .ok (.getfield 177, 3) := by decide +kernel
theorem dX9_swap_56 : decode cX9_swap 56 = .ok (.iload_n 1, 1) := by decide +kernel
theorem dX9_swap_57 : decode cX9_swap 57 = .ok (.iaload, 1) := by decide +kernel
theorem dX9_swap_58 : decode cX9_swap 58 = .ok (.istore 4, 2) := by decide +kernel
theorem dX9_swap_60 : decode cX9_swap 60 = .ok (.aload_n 0, 1) := by decide +kernel
theorem dX9_swap_61 : decode cX9_swap 61 = .ok (.getfield 19, 3) := by decide +kernel
theorem dX9_swap_64 : decode cX9_swap 64 = .ok (.getfield 285, 3) := by decide +kernel
theorem dX9_swap_67 : decode cX9_swap 67 = .ok (.iload_n 1, 1) := by decide +kernel
theorem dX9_swap_68 : decode cX9_swap 68 = .ok (.aload_n 0, 1) := by decide +kernel
theorem dX9_swap_69 : decode cX9_swap 69 = .ok (.getfield 19, 3) := by decide +kernel
theorem dX9_swap_72 : decode cX9_swap 72 = .ok (.getfield 285, 3) := by decide +kernel
theorem dX9_swap_75 : decode cX9_swap 75 = .ok (.iload_n 2, 1) := by decide +kernel
theorem dX9_swap_76 : decode cX9_swap 76 = .ok (.iaload, 1) := by decide +kernel
theorem dX9_swap_77 : decode cX9_swap 77 = .ok (.iastore, 1) := by decide +kernel
theorem dX9_swap_78 : decode cX9_swap 78 = .ok (.aload_n 0, 1) := by decide +kernel
theorem dX9_swap_79 : decode cX9_swap 79 = .ok (.getfield 19, 3) := by decide +kernel
theorem dX9_swap_82 : decode cX9_swap 82 = .ok (.getfield 177, 3) := by decide +kernel
theorem dX9_swap_85 : decode cX9_swap 85 = .ok (.iload_n 1, 1) := by decide +kernel
theorem dX9_swap_86 : decode cX9_swap 86 = .ok (.aload_n 0, 1) := by decide +kernel
theorem dX9_swap_87 : decode cX9_swap 87 = .ok (.getfield 19, 3) := by decide +kernel
theorem dX9_swap_90 : decode cX9_swap 90 = .ok (.getfield 177, 3) := by decide +kernel
theorem dX9_swap_93 : decode cX9_swap 93 = .ok (.iload_n 2, 1) := by decide +kernel
theorem dX9_swap_94 : decode cX9_swap 94 = .ok (.iaload, 1) := by decide +kernel
theorem dX9_swap_95 : decode cX9_swap 95 = .ok (.iastore, 1) := by decide +kernel
theorem dX9_swap_96 : decode cX9_swap 96 = .ok (.aload_n 0, 1) := by decide +kernel
theorem dX9_swap_97 : decode cX9_swap 97 = .ok (.getfield 19, 3) := by decide +kernel
theorem dX9_swap_100 : decode cX9_swap 100 = .ok (.getfield 285, 3) := by decide +kernel
theorem dX9_swap_103 : decode cX9_swap 103 = .ok (.iload_n 2, 1) := by decide +kernel
theorem dX9_swap_104 : decode cX9_swap 104 = .ok (.iload_n 3, 1) := by decide +kernel
theorem dX9_swap_105 : decode cX9_swap 105 = .ok (.iastore, 1) := by decide +kernel
theorem dX9_swap_106 : decode cX9_swap 106 = .ok (.aload_n 0, 1) := by decide +kernel
theorem dX9_swap_107 : decode cX9_swap 107 = .ok (.getfield 19, 3) := by decide +kernel
theorem dX9_swap_110 : decode cX9_swap 110 = .ok (.getfield 177, 3) := by decide +kernel
theorem dX9_swap_113 : decode cX9_swap 113 = .ok (.iload_n 2, 1) := by decide +kernel
theorem dX9_swap_114 : decode cX9_swap 114 = .ok (.iload 4, 2) := by decide +kernel
theorem dX9_swap_116 : decode cX9_swap 116 = .ok (.iastore, 1) := by decide +kernel
theorem dX9_swap_117 : decode cX9_swap 117 = .ok (.iconst 1, 1) := by decide +kernel
theorem dX9_swap_118 : decode cX9_swap 118 = .ok (.ireturn, 1) := by decide +kernel
theorem dX9_undo_0 : decode cX9_undo 0 = .ok (.aload_n 0, 1) := by decide +kernel
theorem dX9_undo_1 : decode cX9_undo 1 = .ok (.getfield 88, 3) := by decide +kernel
theorem dX9_undo_4 : decode cX9_undo 4 = .ok (.ifCond .ne 5, 3) := by decide +kernel
theorem dX9_undo_7 : decode cX9_undo 7 = .ok (.iconst (-1), 1) := by decide +kernel
theorem dX9_undo_8 : decode cX9_undo 8 = .ok (.ireturn, 1) := by decide +kernel
theorem dX9_undo_9 : decode cX9_undo 9 = .ok (.aload_n 0, 1) := by decide +kernel
theorem dX9_undo_10 : decode cX9_undo 10 = .ok (.aload_n 0, 1) := by decide +kernel
theorem dX9_undo_11 : decode cX9_undo 11 = .ok (.getfield 84, 3) := by decide +kernel
theorem dX9_undo_14 : decode cX9_undo 14 = .ok (.bipush 8, 2) := by decide +kernel
theorem dX9_undo_16 : decode cX9_undo 16 = .ok (.iadd, 1) := by decide +kernel
theorem dX9_undo_17 : decode cX9_undo 17 = .ok (.iconst 1, 1) := by decide +kernel
theorem dX9_undo_18 : decode cX9_undo 18 = .ok (.isub, 1) := by decide +kernel
theorem dX9_undo_19 : decode cX9_undo 19 = .ok (.bipush 8, 2) := by decide +kernel
theorem dX9_undo_21 : decode cX9_undo 21 = .ok (.irem, 1) := by decide +kernel
theorem dX9_undo_22 : decode cX9_undo 22 = .ok (.putfield 84, 3) := by decide +kernel
theorem dX9_undo_25 : decode cX9_undo 25 = .ok (.aload_n 0, 1) := by decide +kernel
theorem dX9_undo_26 : decode cX9_undo 26 = .ok (.dup, 1) := by decide +kernel
theorem dX9_undo_27 : decode cX9_undo 27 = .ok (.getfield 88, 3) := by decide +kernel
theorem dX9_undo_30 : decode cX9_undo 30 = .ok (.iconst 1, 1) := by decide +kernel
theorem dX9_undo_31 : decode cX9_undo 31 = .ok (.isub, 1) := by decide +kernel
theorem dX9_undo_32 : decode cX9_undo 32 = .ok (.putfield 88, 3) := by decide +kernel
theorem dX9_undo_35 : decode cX9_undo 35 = .ok (.aload_n 0, 1) := by decide +kernel
theorem dX9_undo_36 : decode cX9_undo 36 = .ok (.getfield 19, 3) := by decide +kernel
theorem dX9_undo_39 : decode cX9_undo 39 = .ok (.aload_n 0, 1) := by decide +kernel
theorem dX9_undo_40 : decode cX9_undo 40 = .ok (.getfield 39, 3) := by decide +kernel
theorem dX9_undo_43 : decode cX9_undo 43 = .ok (.aload_n 0, 1) := by decide +kernel
theorem dX9_undo_44 : decode cX9_undo 44 = .ok (.getfield 84, 3) := by decide +kernel
theorem dX9_undo_47 : decode cX9_undo 47 = .ok (.aaload, 1) := by decide +kernel
theorem dX9_undo_48 : decode cX9_undo 48 = .ok (.invokevirtual 132, 3) := by decide +kernel
theorem dX9_undo_51 : decode cX9_undo 51 = .ok (.aload_n 0, 1) := by decide +kernel
theorem dX9_undo_52 : decode cX9_undo 52 = .ok (.getfield 88, 3) := by decide +kernel
theorem dX9_undo_55 : decode cX9_undo 55 = .ok (.ireturn, 1) := by decide +kernel
theorem dX9_take_0 : decode cX9_take 0 = .ok (.iload_n 1, 1) := by decide +kernel
theorem dX9_take_1 : decode cX9_take 1 = .ok (.ifCond .ne 48, 3) := by decide +kernel
theorem dX9_take_4 : decode cX9_take 4 = .ok (.aload_n 0, 1) := by decide +kernel
theorem dX9_take_5 : decode cX9_take 5 = .ok (.getfield 56, 3) := by decide +kernel
theorem dX9_take_8 : decode cX9_take 8 = .ok (.aload_n 0, 1) := by decide +kernel
theorem dX9_take_9 : decode cX9_take 9 = .ok (.getfield 64, 3) := by decide +kernel
theorem dX9_take_12 : decode cX9_take 12 = .ok (.aload_n 0, 1) := by decide +kernel
theorem dX9_take_13 : decode cX9_take 13 = .ok (.getfield 19, 3) := by decide +kernel
theorem dX9_take_16 : decode cX9_take 16 = .ok (.invokevirtual 288, 3) := by decide +kernel
theorem dX9_take_19 : decode cX9_take 19 = .ok (.ifCond .eq 30, 3) := by decide +kernel
theorem dX9_take_22 : decode cX9_take 22 = .ok (.aload_n 0, 1) := by decide +kernel
theorem dX9_take_23 : decode cX9_take 23 = .ok (.invokevirtual 269, 3) := by decide +kernel
theorem dX9_take_26 : decode cX9_take 26 = .ok (.aload_n 0, 1) := by decide +kernel
theorem dX9_take_27 : decode cX9_take 27 = .ok (.getfield 56, 3) := by decide +kernel
theorem dX9_take_30 : decode cX9_take 30 = .ok (.getfield 292, 3) := by decide +kernel
theorem dX9_take_33 : decode cX9_take 33 = .ok (.iconst 0, 1) := by decide +kernel
theorem dX9_take_34 : decode cX9_take 34 = .ok (.aload_n 0, 1) := by decide +kernel
theorem dX9_take_35 : decode cX9_take 35 = .ok (.getfield 19, 3) := by decide +kernel
theorem dX9_take_38 : decode cX9_take 38 = .ok (.getfield 194, 3) := by decide +kernel
theorem dX9_take_41 : decode cX9_take 41 = .ok (.iconst 0, 1) := by decide +kernel
theorem dX9_take_42 : decode cX9_take 42 = .ok (.bipush 12, 2) := by decide +kernel
theorem dX9_take_44 : decode cX9_take 44 = .ok (.invokestatic 295, 3) := by decide +kernel
theorem dX9_take_47 : decode cX9_take 47 = .ok (.iconst 1, 1) := by decide +kernel
theorem dX9_take_48 : decode cX9_take 48 = .ok (.ireturn, 1) := by decide +kernel
theorem dX9_take_49 : decode cX9_take 49 = .ok (.iload_n 1, 1) := by decide +kernel
theorem dX9_take_50 : decode cX9_take 50 = .ok (.iconst 1, 1) := by decide +kernel
theorem dX9_take_51 : decode cX9_take 51 = .ok (.if_icmp .ne 47, 3) := by decide +kernel
theorem dX9_take_54 : decode cX9_take 54 = .ok (.aload_n 0, 1) := by decide +kernel
theorem dX9_take_55 : decode cX9_take 55 = .ok (.getfield 52, 3) := by decide +kernel
theorem dX9_take_58 : decode cX9_take 58 = .ok (.aload_n 0, 1) := by decide +kernel
theorem dX9_take_59 : decode cX9_take 59 = .ok (.getfield 64, 3) := by decide +kernel
theorem dX9_take_62 : decode cX9_take 62 = .ok (.aload_n 0, 1) := by decide +kernel
theorem dX9_take_63 : decode cX9_take 63 = .ok (.getfield 19, 3) := by decide +kernel
theorem dX9_take_66 : decode cX9_take 66 = .ok (.invokevirtual 288, 3) := by decide +kernel
theorem dX9_take_69 : decode cX9_take 69 = .ok (.ifCond .eq 29, 3) := by decide +kernel
theorem dX9_take_72 : decode cX9_take 72 = .ok (.aload_n 0, 1) := by decide +kernel
theorem dX9_take_73 : decode cX9_take 73 = .ok (.invokevirtual 269, 3) := by decide +kernel
theorem dX9_take_76 : decode cX9_take 76 = .ok (.aload_n 0, 1) := by decide +kernel
theorem dX9_take_77 : decode cX9_take 77 = .ok (.getfield 52, 3) := by decide +kernel
theorem dX9_take_80 : decode cX9_take 80 = .ok (.getfield 292, 3) := by decide +kernel
theorem dX9_take_83 : decode cX9_take 83 = .ok (.iconst 0, 1) := by decide +kernel
theorem dX9_take_84 : decode cX9_take 84 = .ok (.aload_n 0, 1) := by decide +kernel
theorem dX9_take_85 : decode cX9_take 85 = .ok (.getfield 19, 3) := by decide +kernel
theorem dX9_take_88 : decode cX9_take 88 = .ok (.getfield 177, 3) := by decide +kernel
theorem dX9_take_91 : decode cX9_take 91 = .ok (.iconst 0, 1) := by decide +kernel
theorem dX9_take_92 : decode cX9_take 92 = .ok (.iconst 4, 1) := by decide +kernel
theorem dX9_take_93 : decode cX9_take 93 = .ok (.invokestatic 295, 3) := by decide +kernel
theorem dX9_take_96 : decode cX9_take 96 = .ok (.iconst 1, 1) := by decide +kernel
theorem dX9_take_97 : decode cX9_take 97 = .ok (.ireturn, 1) := by decide +kernel
theorem dX9_take_98 : decode cX9_take 98 = .ok (.iconst 0, 1) := by decide +kernel
theorem dX9_take_99 : decode cX9_take 99 = .ok (.ireturn, 1) := by decide +kernel
theorem dX9_remember_0 : decode cX9_remember 0 = .ok (.aload_n 0, 1) := by decide +kernel
theorem dX9_remember_1 : decode cX9_remember 1 = .ok (.getfield 39, 3) := by decide +kernel
theorem dX9_remember_4 : decode cX9_remember 4 = .ok (.aload_n 0, 1) := by decide +kernel
theorem dX9_remember_5 : decode cX9_remember 5 = .ok (.getfield 84, 3) := by decide +kernel
theorem dX9_remember_8 : decode cX9_remember 8 = .ok (.aaload, 1) := by decide +kernel
theorem dX9_remember_9 : decode cX9_remember 9 = .ok (.aload_n 0, 1) := by decide +kernel
theorem dX9_remember_10 : decode cX9_remember 10 = .ok (.getfield 19, 3) := by decide +kernel
theorem dX9_remember_13 : decode cX9_remember 13 = .ok (.invokevirtual 132, 3) := by decide +kernel
theorem dX9_remember_16 : decode cX9_remember 16 = .ok (.aload_n 0, 1) := by decide +kernel
theorem dX9_remember_17 : decode cX9_remember 17 = .ok (.aload_n 0, 1) := by decide +kernel
theorem dX9_remember_18 : decode cX9_remember 18 = .ok (.getfield 84, 3) := by decide +kernel
theorem dX9_remember_21 : decode cX9_remember 21 = .ok (.iconst 1, 1) := by decide +kernel
theorem dX9_remember_22 : decode cX9_remember 22 = .ok (.iadd, 1) := by decide +kernel
theorem dX9_remember_23 : decode cX9_remember 23 = .ok (.bipush 8, 2) := by decide +kernel
theorem dX9_remember_25 : decode cX9_remember 25 = .ok (.irem, 1) := by decide +kernel
theorem dX9_remember_26 : decode cX9_remember 26 = .ok (.putfield 84, 3) := by decide +kernel
theorem dX9_remember_29 : decode cX9_remember 29 = .ok (.aload_n 0, 1) := by decide +kernel
theorem dX9_remember_30 : decode cX9_remember 30 = .ok (.bipush 8, 2) := by decide +kernel
theorem dX9_remember_32 : decode cX9_remember 32 = .ok (.aload_n 0, 1) := by decide +kernel
theorem dX9_remember_33 : decode cX9_remember 33 = .ok (.getfield 88, 3) := by decide +kernel
theorem dX9_remember_36 : decode cX9_remember 36 = .ok (.iconst 1, 1) := by decide +kernel
theorem dX9_remember_37 : decode cX9_remember 37 = .ok (.iadd, 1) := by decide +kernel
theorem dX9_remember_38 : decode cX9_remember 38 = .ok (.invokestatic 264, 3) := by decide +kernel
theorem dX9_remember_41 : decode cX9_remember 41 = .ok (.putfield 88, 3) := by decide +kernel
theorem dX9_remember_44 : decode cX9_remember 44 = .ok (.return_, 1) := by decide +kernel
theorem dX9_forgetPast_0 : decode cX9_forgetPast 0 = .ok (.aload_n 0, 1) := by decide +kernel
theorem dX9_forgetPast_1 : decode cX9_forgetPast 1 = .ok (.iconst 0, 1) := by decide +kernel
theorem dX9_forgetPast_2 : decode cX9_forgetPast 2 = .ok (.putfield 88, 3) := by decide +kernel
theorem dX9_forgetPast_5 : decode cX9_forgetPast 5 = .ok (.return_, 1) := by decide +kernel
theorem dX9_best_0 : decode cX9_best 0 = .ok (.aload_n 0, 1) := by decide +kernel
theorem dX9_best_1 : decode cX9_best 1 = .ok (.getfield 19, 3) := by decide +kernel
theorem dX9_best_4 : decode cX9_best 4 = .ok (.getfield 222, 3) := by decide +kernel
theorem dX9_best_7 : decode cX9_best 7 = .ok (.ifCond .ne 5, 3) := by decide +kernel
theorem dX9_best_10 : decode cX9_best 10 = .ok (.iconst (-1), 1) := by decide +kernel
theorem dX9_best_11 : decode cX9_best 11 = .ok (.ireturn, 1) := by decide +kernel
theorem dX9_best_12 : decode cX9_best 12 = .ok (.aload_n 0, 1) := by decide +kernel
theorem dX9_best_13 : decode cX9_best 13 = .ok (.invokevirtual 301, 3) := by decide +kernel
theorem dX9_best_16 : decode cX9_best 16 = .ok (.astore_n 1, 1) := by decide +kernel
theorem dX9_best_17 : decode cX9_best 17 = .ok (.aload_n 1, 1) := by decide +kernel
theorem dX9_best_18 : decode cX9_best 18 = .ok (.aload_n 0, 1) := by decide +kernel
theorem dX9_best_19 : decode cX9_best 19 = .ok (.getfield 64, 3) := by decide +kernel
theorem dX9_best_22 : decode cX9_best 22 = .ok (.aload_n 0, 1) := by decide +kernel
theorem dX9_best_23 : decode cX9_best 23 = .ok (.getfield 19, 3) := by decide +kernel
theorem dX9_best_26 : decode cX9_best 26 = .ok (.aload_n 0, 1) := by decide +kernel
theorem dX9_best_27 : decode cX9_best 27 = .ok (.getfield 32, 3) := by decide +kernel
theorem dX9_best_30 : decode cX9_best 30 = .ok (.invokevirtual 305, 3) := by decide +kernel
theorem dX9_best_33 : decode cX9_best 33 = .ok (.istore_n 2, 1) := by decide +kernel
theorem dX9_best_34 : decode cX9_best 34 = .ok (.iload_n 2, 1) := by decide +kernel
theorem dX9_best_35 : decode cX9_best 35 = .ok (.iconst (-1), 1) := by decide +kernel
theorem dX9_best_36 : decode cX9_best 36 = .ok (.if_icmp .eq 23, 3) := by decide +kernel
theorem dX9_best_39 : decode cX9_best 39 = .ok (.aload_n 0, 1) := by decide +kernel
theorem dX9_best_40 : decode cX9_best 40 = .ok (.getfield 52, 3) := by decide +kernel
theorem dX9_best_43 : decode cX9_best 43 = .ok (.aload_n 0, 1) := by decide +kernel
theorem dX9_best_44 : decode cX9_best 44 = .ok (.getfield 64, 3) := by decide +kernel
theorem dX9_best_47 : decode cX9_best 47 = .ok (.aload_n 0, 1) := by decide +kernel
theorem dX9_best_48 : decode cX9_best 48 = .ok (.getfield 19, 3) := by decide +kernel
theorem dX9_best_51 : decode cX9_best 51 = .ok (.aload_n 1, 1) := by decide +kernel
theorem dX9_best_52 : decode cX9_best 52 = .ok (.getfield 311, 3) := by decide +kernel
theorem dX9_best_55 : decode cX9_best 55 = .ok (.iconst 4, 1) := by decide +kernel
theorem dX9_best_56 : decode cX9_best 56 = .ok (.invokevirtual 314, 3) := by decide +kernel
theorem dX9_best_59 : decode cX9_best 59 = .ok (.iload_n 2, 1) := by decide +kernel
theorem dX9_best_60 : decode cX9_best 60 = .ok (.ireturn, 1) := by decide +kernel
theorem dX9_when_0 : decode cX9_when 0 = .ok (.aload_n 0, 1) := by decide +kernel
theorem dX9_when_1 : decode cX9_when 1 = .ok (.getfield 52, 3) := by decide +kernel
theorem dX9_when_4 : decode cX9_when 4 = .ok (.iload_n 1, 1) := by decide +kernel
theorem dX9_when_5 : decode cX9_when 5 = .ok (.invokevirtual 318, 3) := by decide +kernel
theorem dX9_when_8 : decode cX9_when 8 = .ok (.ireturn, 1) := by decide +kernel
theorem dX9_line_0 : decode cX9_line 0 = .ok (.aload_n 0, 1) := by decide +kernel
theorem dX9_line_1 : decode cX9_line 1 = .ok (.getfield 19, 3) := by decide +kernel
theorem dX9_line_4 : decode cX9_line 4 = .ok (.getfield 222, 3) := by decide +kernel
theorem dX9_line_7 : decode cX9_line 7 = .ok (.ifCond .ne 5, 3) := by decide +kernel
theorem dX9_line_10 : decode cX9_line 10 = .ok (.iconst (-1), 1) := by decide +kernel
theorem dX9_line_11 : decode cX9_line 11 = .ok (.ireturn, 1) := by decide +kernel
theorem dX9_line_12 : decode cX9_line 12 = .ok (.aload_n 0, 1) := by decide +kernel
theorem dX9_line_13 : decode cX9_line 13 = .ok (.getfield 32, 3) := by decide +kernel
theorem dX9_line_16 : decode cX9_line 16 = .ok (.aload_n 0, 1) := by decide +kernel
theorem dX9_line_17 : decode cX9_line 17 = .ok (.getfield 64, 3) := by decide +kernel
theorem dX9_line_20 : decode cX9_line 20 = .ok (.aload_n 0, 1) := by decide +kernel
theorem dX9_line_21 : decode cX9_line 21 = .ok (.getfield 19, 3) := by decide +kernel
theorem dX9_line_24 : decode cX9_line 24 = .ok (.invokevirtual 225, 3) := by decide +kernel
theorem dX9_line_27 : decode cX9_line 27 = .ok (.pop, 1) := by decide +kernel
theorem dX9_line_28 : decode cX9_line 28 = .ok (.aload_n 0, 1) := by decide +kernel
theorem dX9_line_29 : decode cX9_line 29 = .ok (.getfield 32, 3) := by decide +kernel
theorem dX9_line_32 : decode cX9_line 32 = .ok (.getfield 241, 3) := by decide +kernel
theorem dX9_line_35 : decode cX9_line 35 = .ok (.aload_n 0, 1) := by decide +kernel
theorem dX9_line_36 : decode cX9_line 36 = .ok (.getfield 64, 3) := by decide +kernel
theorem dX9_line_39 : decode cX9_line 39 = .ok (.getfield 213, 3) := by decide +kernel
theorem dX9_line_42 : decode cX9_line 42 = .ok (.iconst 2, 1) := by decide +kernel
theorem dX9_line_43 : decode cX9_line 43 = .ok (.iaload, 1) := by decide +kernel
theorem dX9_line_44 : decode cX9_line 44 = .ok (.if_icmp .le 5, 3) := by decide +kernel
theorem dX9_line_47 : decode cX9_line 47 = .ok (.iconst (-1), 1) := by decide +kernel
theorem dX9_line_48 : decode cX9_line 48 = .ok (.ireturn, 1) := by decide +kernel
theorem dX9_line_49 : decode cX9_line 49 = .ok (.aload_n 0, 1) := by decide +kernel
theorem dX9_line_50 : decode cX9_line 50 = .ok (.getfield 76, 3) := by decide +kernel
theorem dX9_line_53 : decode cX9_line 53 = .ok (.ifnonnull 14, 3) := by decide +kernel
theorem dX9_line_56 : decode cX9_line 56 = .ok (.aload_n 0, 1) := by decide +kernel
theorem dX9_line_57 : decode cX9_line 57 = .ok (.new 321, 3) := by decide +kernel
theorem dX9_line_60 : decode cX9_line 60 = .ok (.dup, 1) := by decide +kernel
theorem dX9_line_61 : decode cX9_line 61 = .ok (.invokespecial 323, 3) := by decide +kernel
theorem dX9_line_64 : decode cX9_line 64 = .ok (.putfield 76, 3) := by decide +kernel
theorem dX9_line_67 : decode cX9_line 67 = .ok (.aload_n 0, 1) := by decide +kernel
theorem dX9_line_68 : decode cX9_line 68 = .ok (.getfield 76, 3) := by decide +kernel
theorem dX9_line_71 : decode cX9_line 71 = .ok (.aload_n 0, 1) := by decide +kernel
theorem dX9_line_72 : decode cX9_line 72 = .ok (.getfield 64, 3) := by decide +kernel
theorem dX9_line_75 : decode cX9_line 75 = .ok (.aload_n 0, 1) := by decide +kernel
theorem dX9_line_76 : decode cX9_line 76 = .ok (.getfield 19, 3) := by decide +kernel
theorem dX9_line_79 : decode cX9_line 79 = .ok (.aload_n 0, 1) := by decide +kernel
theorem dX9_line_80 : decode cX9_line 80 = .ok (.getfield 32, 3) := by decide +kernel
theorem dX9_line_83 : decode cX9_line 83 = .ok (.getfield 232, 3) := by decide +kernel
theorem dX9_line_86 : decode cX9_line 86 = .ok (.aload_n 0, 1) := by decide +kernel
theorem dX9_line_87 : decode cX9_line 87 = .ok (.getfield 32, 3) := by decide +kernel
theorem dX9_line_90 : decode cX9_line 90 = .ok (.getfield 241, 3) := by decide +kernel
theorem dX9_line_93 : decode cX9_line 93 = .ok (.invokevirtual 324, 3) := by decide +kernel
theorem dX9_line_96 : decode cX9_line 96 = .ok (.istore_n 1, 1) := by decide +kernel
theorem dX9_line_97 : decode cX9_line 97 = .ok (.iload_n 1, 1) := by decide +kernel
theorem dX9_line_98 : decode cX9_line 98 = .ok (.iconst (-1), 1) := by decide +kernel
theorem dX9_line_99 : decode cX9_line 99 = .ok (.if_icmp .ne 5, 3) := by decide +kernel
theorem dX9_line_102 : decode cX9_line 102 = .ok (.iconst (-1), 1) := by decide +kernel
theorem dX9_line_103 : decode cX9_line 103 = .ok (.ireturn, 1) := by decide +kernel
theorem dX9_line_104 : decode cX9_line 104 = .ok (.aload_n 0, 1) := by decide +kernel
theorem dX9_line_105 : decode cX9_line 105 = .ok (.getfield 56, 3) := by decide +kernel
theorem dX9_line_108 : decode cX9_line 108 = .ok (.aload_n 0, 1) := by decide +kernel
theorem dX9_line_109 : decode cX9_line 109 = .ok (.getfield 64, 3) := by decide +kernel
theorem dX9_line_112 : decode cX9_line 112 = .ok (.aload_n 0, 1) := by decide +kernel
theorem dX9_line_113 : decode cX9_line 113 = .ok (.getfield 19, 3) := by decide +kernel
theorem dX9_line_116 : decode cX9_line 116 = .ok (.aload_n 0, 1) := by decide +kernel
theorem dX9_line_117 : decode cX9_line 117 = .ok (.getfield 76, 3) := by decide +kernel
theorem dX9_line_120 : decode cX9_line 120 = .ok (.getfield 327, 3) := by decide +kernel
theorem dX9_line_123 : decode cX9_line 123 = .ok (.aload_n 0, 1) := by decide +kernel
theorem dX9_line_124 : decode cX9_line 124 = .ok (.getfield 64, 3) := by decide +kernel
theorem dX9_line_127 : decode cX9_line 127 = .ok (.getfield 180, 3) := by decide +kernel
theorem dX9_line_130 : decode cX9_line 130 = .ok (.invokevirtual 314, 3) := by decide +kernel
theorem dX9_line_133 : decode cX9_line 133 = .ok (.aload_n 0, 1) := by decide +kernel
theorem dX9_line_134 : decode cX9_line 134 = .ok (.getfield 32, 3) := by decide +kernel
theorem dX9_line_137 : decode cX9_line 137 = .ok (.getfield 229, 3) := by decide +kernel
theorem dX9_line_140 : decode cX9_line 140 = .ok (.iload_n 1, 1) := by decide +kernel
theorem dX9_line_141 : decode cX9_line 141 = .ok (.iadd, 1) := by decide +kernel
theorem dX9_line_142 : decode cX9_line 142 = .ok (.ireturn, 1) := by decide +kernel
theorem dX9_height_0 : decode cX9_height 0 = .ok (.aload_n 0, 1) := by decide +kernel
theorem dX9_height_1 : decode cX9_height 1 = .ok (.getfield 56, 3) := by decide +kernel
theorem dX9_height_4 : decode cX9_height 4 = .ok (.iload_n 1, 1) := by decide +kernel
theorem dX9_height_5 : decode cX9_height 5 = .ok (.invokevirtual 318, 3) := by decide +kernel
theorem dX9_height_8 : decode cX9_height 8 = .ok (.ireturn, 1) := by decide +kernel
theorem dX9_four_0 : decode cX9_four 0 = .ok (.aload_n 0, 1) := by decide +kernel
theorem dX9_four_1 : decode cX9_four 1 = .ok (.getfield 64, 3) := by decide +kernel
theorem dX9_four_4 : decode cX9_four 4 = .ok (.getfield 153, 3) := by decide +kernel
theorem dX9_four_7 : decode cX9_four 7 = .ok (.iconst 4, 1) := by decide +kernel
theorem dX9_four_8 : decode cX9_four 8 = .ok (.if_icmp .lt 15, 3) := by decide +kernel
theorem dX9_four_11 : decode cX9_four 11 = .ok (.aload_n 0, 1) := by decide +kernel
theorem dX9_four_12 : decode cX9_four 12 = .ok (.getfield 64, 3) := by decide +kernel
theorem dX9_four_15 : decode cX9_four 15 = .ok (.getfield 153, 3) := by decide +kernel
theorem dX9_four_18 : decode cX9_four 18 = .ok (.bipush 6, 2) := by decide +kernel
theorem dX9_four_20 : decode cX9_four 20 = .ok (.if_icmp .le 5, 3) := by decide +kernel
theorem dX9_four_23 : decode cX9_four 23 = .ok (.iconst (-1), 1) := by decide +kernel
theorem dX9_four_24 : decode cX9_four 24 = .ok (.ireturn, 1) := by decide +kernel
theorem dX9_four_25 : decode cX9_four 25 = .ok (.aload_n 0, 1) := by decide +kernel
theorem dX9_four_26 : decode cX9_four 26 = .ok (.invokevirtual 301, 3) := by decide +kernel
theorem dX9_four_29 : decode cX9_four 29 = .ok (.astore_n 1, 1) := by decide +kernel
theorem dX9_four_30 : decode cX9_four 30 = .ok (.aload_n 0, 1) := by decide +kernel
theorem dX9_four_31 : decode cX9_four 31 = .ok (.getfield 26, 3) := by decide +kernel
theorem dX9_four_34 : decode cX9_four 34 = .ok (.aload_n 0, 1) := by decide +kernel
theorem dX9_four_35 : decode cX9_four 35 = .ok (.getfield 19, 3) := by decide +kernel
theorem dX9_four_38 : decode cX9_four 38 = .ok (.invokevirtual 132, 3) := by decide +kernel
theorem dX9_four_41 : decode cX9_four 41 = .ok (.iconst (-1), 1) := by decide +kernel
theorem dX9_four_42 : decode cX9_four 42 = .ok (.istore_n 2, 1) := by decide +kernel
theorem dX9_four_43 : decode cX9_four 43 = .ok (.iconst (-1), 1) := by decide +kernel
theorem dX9_four_44 : decode cX9_four 44 = .ok (.istore_n 3, 1) := by decide +kernel
theorem dX9_four_45 : decode cX9_four 45 = .ok (.iconst 0, 1) := by decide +kernel
theorem dX9_four_46 : decode cX9_four 46 = .ok (.istore 4, 2) := by decide +kernel
theorem dX9_four_48 : decode cX9_four 48 = .ok (.iload 4, 2) := by decide +kernel
theorem dX9_four_50 : decode cX9_four 50 = .ok (.aload_n 0, 1) := by decide +kernel
theorem dX9_four_51 : decode cX9_four 51 = .ok (.getfield 64, 3) := by decide +kernel
theorem dX9_four_54 : decode cX9_four 54 = .ok (.getfield 153, 3) := by decide +kernel
theorem dX9_four_57 : decode cX9_four 57 = .ok (.if_icmp .ge 154, 3) := by decide +kernel
theorem dX9_four_60 : decode cX9_four 60 = .ok (.iload 4, 2) := by decide +kernel
theorem dX9_four_62 : decode cX9_four 62 = .ok (.iconst 1, 1) := by decide +kernel
theorem dX9_four_63 : decode cX9_four 63 = .ok (.iadd, 1) := by decide +kernel
theorem dX9_four_64 : decode cX9_four 64 = .ok (.istore 5, 2) := by decide +kernel
theorem dX9_four_66 : decode cX9_four 66 = .ok (.iload 5, 2) := by decide +kernel
theorem dX9_four_68 : decode cX9_four 68 = .ok (.aload_n 0, 1) := by decide +kernel
theorem dX9_four_69 : decode cX9_four 69 = .ok (.getfield 64, 3) := by decide +kernel
theorem dX9_four_72 : decode cX9_four 72 = .ok (.getfield 153, 3) := by decide +kernel
theorem dX9_four_75 : decode cX9_four 75 = .ok (.if_icmp .ge 130, 3) := by decide +kernel
theorem dX9_four_78 : decode cX9_four 78 = .ok (.iload 5, 2) := by decide +kernel
theorem dX9_four_80 : decode cX9_four 80 = .ok (.iconst 1, 1) := by decide +kernel
theorem dX9_four_81 : decode cX9_four 81 = .ok (.iadd, 1) := by decide +kernel
theorem dX9_four_82 : decode cX9_four 82 = .ok (.istore 6, 2) := by decide +kernel
theorem dX9_four_84 : decode cX9_four 84 = .ok (.iload 6, 2) := by decide +kernel
theorem dX9_four_86 : decode cX9_four 86 = .ok (.aload_n 0, 1) := by decide +kernel
theorem dX9_four_87 : decode cX9_four 87 = .ok (.getfield 64, 3) := by decide +kernel
theorem dX9_four_90 : decode cX9_four 90 = .ok (.getfield 153, 3) := by decide +kernel
theorem dX9_four_93 : decode cX9_four 93 = .ok (.if_icmp .ge 106, 3) := by decide +kernel
theorem dX9_four_96 : decode cX9_four 96 = .ok (.iload 6, 2) := by decide +kernel
theorem dX9_four_98 : decode cX9_four 98 = .ok (.iconst 1, 1) := by decide +kernel
theorem dX9_four_99 : decode cX9_four 99 = .ok (.iadd, 1) := by decide +kernel
theorem dX9_four_100 : decode cX9_four 100 = .ok (.istore 7, 2) := by decide +kernel
theorem dX9_four_102 : decode cX9_four 102 = .ok (.iload 7, 2) := by decide +kernel
theorem dX9_four_104 : decode cX9_four 104 = .ok (.aload_n 0, 1) := by decide +kernel
theorem dX9_four_105 : decode cX9_four 105 = .ok (.getfield 64, 3) := by decide +kernel
theorem dX9_four_108 : decode cX9_four 108 = .ok (.getfield 153, 3) := by decide +kernel
theorem dX9_four_111 : decode cX9_four 111 = .ok (.if_icmp .ge 82, 3) := by decide +kernel
theorem dX9_four_114 : decode cX9_four 114 = .ok (.aload_n 0, 1) := by decide +kernel
theorem dX9_four_115 : decode cX9_four 115 = .ok (.getfield 26, 3) := by decide +kernel
theorem dX9_four_118 : decode cX9_four 118 = .ok (.iload 4, 2) := by decide +kernel
theorem dX9_four_120 : decode cX9_four 120 = .ok (.iload 5, 2) := by decide +kernel
theorem dX9_four_122 : decode cX9_four 122 = .ok (.iload 6, 2) := by decide +kernel
theorem dX9_four_124 : decode cX9_four 124 = .ok (.iload 7, 2) := by decide +kernel
theorem dX9_four_126 : decode cX9_four 126 = .ok (.invokevirtual 330, 3) := by decide +kernel
theorem dX9_four_129 : decode cX9_four 129 = .ok (.aload_n 1, 1) := by decide +kernel
theorem dX9_four_130 : decode cX9_four 130 = .ok (.aload_n 0, 1) := by decide +kernel
theorem dX9_four_131 : decode cX9_four 131 = .ok (.getfield 64, 3) := by decide +kernel
theorem dX9_four_134 : decode cX9_four 134 = .ok (.aload_n 0, 1) := by decide +kernel
theorem dX9_four_135 : decode cX9_four 135 = .ok (.getfield 26, 3) := by decide +kernel
theorem dX9_four_138 : decode cX9_four 138 = .ok (.aload_n 0, 1) := by decide +kernel
theorem dX9_four_139 : decode cX9_four 139 = .ok (.getfield 32, 3) := by decide +kernel
theorem dX9_four_142 : decode cX9_four 142 = .ok (.invokevirtual 305, 3) := by decide +kernel
theorem dX9_four_145 : decode cX9_four 145 = .ok (.istore 8, 2) := by decide +kernel
theorem dX9_four_147 : decode cX9_four 147 = .ok (.iload 8, 2) := by decide +kernel
theorem dX9_four_149 : decode cX9_four 149 = .ok (.iconst (-1), 1) := by decide +kernel
theorem dX9_four_150 : decode cX9_four 150 = .ok (.if_icmp .eq 37, 3) := by decide +kernel
theorem dX9_four_153 : decode cX9_four 153 = .ok (.iload_n 2, 1) := by decide +kernel
theorem dX9_four_154 : decode cX9_four 154 = .ok (.iconst (-1), 1) := by decide +kernel
theorem dX9_four_155 : decode cX9_four 155 = .ok (.if_icmp .eq 9, 3) := by decide +kernel
theorem dX9_four_158 : decode cX9_four 158 = .ok (.iload 8, 2) := by decide +kernel
theorem dX9_four_160 : decode cX9_four 160 = .ok (.iload_n 2, 1) := by decide +kernel
theorem dX9_four_161 : decode cX9_four 161 = .ok (.if_icmp .ge 26, 3) := by decide +kernel
theorem dX9_four_164 : decode cX9_four 164 = .ok (.iload 8, 2) := by decide +kernel
theorem dX9_four_166 : decode cX9_four 166 = .ok (.istore_n 2, 1) := by decide +kernel
theorem dX9_four_167 : decode cX9_four 167 = .ok (.iconst 1, 1) := by decide +kernel
theorem dX9_four_168 : decode cX9_four 168 = .ok (.iload 4, 2) := by decide +kernel
theorem dX9_four_170 : decode cX9_four 170 = .ok (.ishl, 1) := by decide +kernel
theorem dX9_four_171 : decode cX9_four 171 = .ok (.iconst 1, 1) := by decide +kernel
theorem dX9_four_172 : decode cX9_four 172 = .ok (.iload 5, 2) := by decide +kernel
theorem dX9_four_174 : decode cX9_four 174 = .ok (.ishl, 1) := by decide +kernel
theorem dX9_four_175 : decode cX9_four 175 = .ok (.ior, 1) := by decide +kernel
theorem dX9_four_176 : decode cX9_four 176 = .ok (.iconst 1, 1) := by decide +kernel
theorem dX9_four_177 : decode cX9_four 177 = .ok (.iload 6, 2) := by decide +kernel
theorem dX9_four_179 : decode cX9_four 179 = .ok (.ishl, 1) := by decide +kernel
theorem dX9_four_180 : decode cX9_four 180 = .ok (.ior, 1) := by decide +kernel
theorem dX9_four_181 : decode cX9_four 181 = .ok (.iconst 1, 1) := by decide +kernel
theorem dX9_four_182 : decode cX9_four 182 = .ok (.iload 7, 2) := by decide +kernel
theorem dX9_four_184 : decode cX9_four 184 = .ok (.ishl, 1) := by decide +kernel
theorem dX9_four_185 : decode cX9_four 185 = .ok (.ior, 1) := by decide +kernel
theorem dX9_four_186 : decode cX9_four 186 = .ok (.istore_n 3, 1) := by decide +kernel
theorem dX9_four_187 : decode cX9_four 187 = .ok (.iinc 7 1, 3) := by decide +kernel
theorem dX9_four_190 : decode cX9_four 190 = .ok (.goto (-88), 3) := by decide +kernel
theorem dX9_four_193 : decode cX9_four 193 = .ok (.iinc 6 1, 3) := by decide +kernel
theorem dX9_four_196 : decode cX9_four 196 = .ok (.goto (-112), 3) := by decide +kernel
theorem dX9_four_199 : decode cX9_four 199 = .ok (.iinc 5 1, 3) := by decide +kernel
theorem dX9_four_202 : decode cX9_four 202 = .ok (.goto (-136), 3) := by decide +kernel
theorem dX9_four_205 : decode cX9_four 205 = .ok (.iinc 4 1, 3) := by decide +kernel
theorem dX9_four_208 : decode cX9_four 208 = .ok (.goto (-160), 3) := by decide +kernel
theorem dX9_four_211 : decode cX9_four 211 = .ok (.iload_n 3, 1) := by decide +kernel
theorem dX9_four_212 : decode cX9_four 212 = .ok (.ireturn, 1) := by decide +kernel
theorem dX9_kilo_0 : decode cX9_kilo 0 = .ok (.aload_n 0, 1) := by decide +kernel
theorem dX9_kilo_1 : decode cX9_kilo 1 = .ok (.getfield 19, 3) := by decide +kernel
theorem dX9_kilo_4 : decode cX9_kilo 4 = .ok (.getfield 222, 3) := by decide +kernel
theorem dX9_kilo_7 : decode cX9_kilo 7 = .ok (.ifCond .eq 28, 3) := by decide +kernel
theorem dX9_kilo_10 : decode cX9_kilo 10 = .ok (.iload_n 1, 1) := by decide +kernel
theorem dX9_kilo_11 : decode cX9_kilo 11 = .ok (.iconst 1, 1) := by decide +kernel
theorem dX9_kilo_12 : decode cX9_kilo 12 = .ok (.if_icmp .lt 23, 3) := by decide +kernel
theorem dX9_kilo_15 : decode cX9_kilo 15 = .ok (.iload_n 1, 1) := by decide +kernel
theorem dX9_kilo_16 : decode cX9_kilo 16 = .ok (.bipush 99, 2) := by decide +kernel
theorem dX9_kilo_18 : decode cX9_kilo 18 = .ok (.if_icmp .gt 17, 3) := by decide +kernel
theorem dX9_kilo_21 : decode cX9_kilo 21 = .ok (.aload_n 0, 1) := by decide +kernel
theorem dX9_kilo_22 : decode cX9_kilo 22 = .ok (.getfield 19, 3) := by decide +kernel
theorem dX9_kilo_25 : decode cX9_kilo 25 = .ok (.getfield 216, 3) := by decide +kernel
theorem dX9_kilo_28 : decode cX9_kilo 28 = .ok (.iload_n 1, 1) := by decide +kernel
theorem dX9_kilo_29 : decode cX9_kilo 29 = .ok (.iadd, 1) := by decide +kernel
theorem dX9_kilo_30 : decode cX9_kilo 30 = .ok (.bipush 99, 2) := by decide +kernel
theorem dX9_kilo_32 : decode cX9_kilo 32 = .ok (.if_icmp .le 7, 3) := by decide +kernel
theorem dX9_kilo_35 : decode cX9_kilo 35 = .ok (.ldc_w 335, 3) := by decide +kernel
theorem dX9_kilo_38 : decode cX9_kilo 38 = .ok (.ireturn, 1) := by decide +kernel
theorem dX9_kilo_39 : decode cX9_kilo 39 = .ok (.aload_n 0, 1) := by decide +kernel
theorem dX9_kilo_40 : decode cX9_kilo 40 = .ok (.getfield 26, 3) := by decide +kernel
theorem dX9_kilo_43 : decode cX9_kilo 43 = .ok (.aload_n 0, 1) := by decide +kernel
theorem dX9_kilo_44 : decode cX9_kilo 44 = .ok (.getfield 19, 3) := by decide +kernel
theorem dX9_kilo_47 : decode cX9_kilo 47 = .ok (.invokevirtual 132, 3) := by decide +kernel
theorem dX9_kilo_50 : decode cX9_kilo 50 = .ok (.aload_n 0, 1) := by decide +kernel
theorem dX9_kilo_51 : decode cX9_kilo 51 = .ok (.getfield 26, 3) := by decide +kernel
theorem dX9_kilo_54 : decode cX9_kilo 54 = .ok (.aload_n 0, 1) := by decide +kernel
theorem dX9_kilo_55 : decode cX9_kilo 55 = .ok (.getfield 19, 3) := by decide +kernel
theorem dX9_kilo_58 : decode cX9_kilo 58 = .ok (.getfield 216, 3) := by decide +kernel
theorem dX9_kilo_61 : decode cX9_kilo 61 = .ok (.iload_n 1, 1) := by decide +kernel
theorem dX9_kilo_62 : decode cX9_kilo 62 = .ok (.iadd, 1) := by decide +kernel
theorem dX9_kilo_63 : decode cX9_kilo 63 = .ok (.putfield 216, 3) := by decide +kernel
theorem dX9_kilo_66 : decode cX9_kilo 66 = .ok (.aload_n 0, 1) := by decide +kernel
theorem dX9_kilo_67 : decode cX9_kilo 67 = .ok (.getfield 36, 3) := by decide +kernel
theorem dX9_kilo_70 : decode cX9_kilo 70 = .ok (.aload_n 0, 1) := by decide +kernel
theorem dX9_kilo_71 : decode cX9_kilo 71 = .ok (.getfield 64, 3) := by decide +kernel
theorem dX9_kilo_74 : decode cX9_kilo 74 = .ok (.aload_n 0, 1) := by decide +kernel
theorem dX9_kilo_75 : decode cX9_kilo 75 = .ok (.getfield 26, 3) := by decide +kernel
theorem dX9_kilo_78 : decode cX9_kilo 78 = .ok (.invokevirtual 225, 3) := by decide +kernel
theorem dX9_kilo_81 : decode cX9_kilo 81 = .ok (.aload_n 0, 1) := by decide +kernel
theorem dX9_kilo_82 : decode cX9_kilo 82 = .ok (.getfield 32, 3) := by decide +kernel
theorem dX9_kilo_85 : decode cX9_kilo 85 = .ok (.aload_n 0, 1) := by decide +kernel
theorem dX9_kilo_86 : decode cX9_kilo 86 = .ok (.getfield 64, 3) := by decide +kernel
theorem dX9_kilo_89 : decode cX9_kilo 89 = .ok (.aload_n 0, 1) := by decide +kernel
theorem dX9_kilo_90 : decode cX9_kilo 90 = .ok (.getfield 19, 3) := by decide +kernel
theorem dX9_kilo_93 : decode cX9_kilo 93 = .ok (.invokevirtual 225, 3) := by decide +kernel
theorem dX9_kilo_96 : decode cX9_kilo 96 = .ok (.invokestatic 336, 3) := by decide +kernel
theorem dX9_kilo_99 : decode cX9_kilo 99 = .ok (.ireturn, 1) := by decide +kernel
theorem dX9_runners_0 : decode cX9_runners 0 = .ok (.aload_n 0, 1) := by decide +kernel
theorem dX9_runners_1 : decode cX9_runners 1 = .ok (.getfield 19, 3) := by decide +kernel
theorem dX9_runners_4 : decode cX9_runners 4 = .ok (.getfield 222, 3) := by decide +kernel
theorem dX9_runners_7 : decode cX9_runners 7 = .ok (.ifCond .ne 5, 3) := by decide +kernel
theorem dX9_runners_10 : decode cX9_runners 10 = .ok (.iconst (-1), 1) := by decide +kernel
theorem dX9_runners_11 : decode cX9_runners 11 = .ok (.ireturn, 1) := by decide +kernel
theorem dX9_runners_12 : decode cX9_runners 12 = .ok (.aload_n 0, 1) := by decide +kernel
theorem dX9_runners_13 : decode cX9_runners 13 = .ok (.getfield 26, 3) := by decide +kernel
theorem dX9_runners_16 : decode cX9_runners 16 = .ok (.aload_n 0, 1) := by decide +kernel
theorem dX9_runners_17 : decode cX9_runners 17 = .ok (.getfield 19, 3) := by decide +kernel
theorem dX9_runners_20 : decode cX9_runners 20 = .ok (.invokevirtual 132, 3) := by decide +kernel
theorem dX9_runners_23 : decode cX9_runners 23 = .ok (.iconst (-1), 1) := by decide +kernel
theorem dX9_runners_24 : decode cX9_runners 24 = .ok (.istore_n 1, 1) := by decide +kernel
theorem dX9_runners_25 : decode cX9_runners 25 = .ok (.iconst (-1), 1) := by decide +kernel
theorem dX9_runners_26 : decode cX9_runners 26 = .ok (.istore_n 2, 1) := by decide +kernel
theorem dX9_runners_27 : decode cX9_runners 27 = .ok (.iconst 0, 1) := by decide +kernel
theorem dX9_runners_28 : decode cX9_runners 28 = .ok (.istore_n 3, 1) := by decide +kernel
theorem dX9_runners_29 : decode cX9_runners 29 = .ok (.iload_n 3, 1) := by decide +kernel
theorem dX9_runners_30 : decode cX9_runners 30 = .ok (.aload_n 0, 1) := by decide +kernel
theorem dX9_runners_31 : decode cX9_runners 31 = .ok (.getfield 64, 3) := by decide +kernel
theorem dX9_runners_34 : decode cX9_runners 34 = .ok (.getfield 197, 3) := by decide +kernel
theorem dX9_runners_37 : decode cX9_runners 37 = .ok (.if_icmp .ge 56, 3) := by decide +kernel
theorem dX9_runners_40 : decode cX9_runners 40 = .ok (.aload_n 0, 1) := by decide +kernel
theorem dX9_runners_41 : decode cX9_runners 41 = .ok (.getfield 26, 3) := by decide +kernel
theorem dX9_runners_44 : decode cX9_runners 44 = .ok (.iload_n 3, 1) := by decide +kernel
theorem dX9_runners_45 : decode cX9_runners 45 = .ok (.putfield 219, 3) := by decide +kernel
theorem dX9_runners_48 : decode cX9_runners 48 = .ok (.aload_n 0, 1) := by decide +kernel
theorem dX9_runners_49 : decode cX9_runners 49 = .ok (.getfield 32, 3) := by decide +kernel
theorem dX9_runners_52 : decode cX9_runners 52 = .ok (.aload_n 0, 1) := by decide +kernel
theorem dX9_runners_53 : decode cX9_runners 53 = .ok (.getfield 64, 3) := by decide +kernel
theorem dX9_runners_56 : decode cX9_runners 56 = .ok (.aload_n 0, 1) := by decide +kernel
theorem dX9_runners_57 : decode cX9_runners 57 = .ok (.getfield 26, 3) := by decide +kernel
theorem dX9_runners_60 : decode cX9_runners 60 = .ok (.invokevirtual 225, 3) := by decide +kernel
theorem dX9_runners_63 : decode cX9_runners 63 = .ok (.istore 4, 2) := by decide +kernel
theorem dX9_runners_65 : decode cX9_runners 65 = .ok (.iload 4, 2) := by decide +kernel
theorem dX9_runners_67 : decode cX9_runners 67 = .ok (.iconst (-1), 1) := by decide +kernel
theorem dX9_runners_68 : decode cX9_runners 68 = .ok (.if_icmp .eq 19, 3) := by decide +kernel
theorem dX9_runners_71 : decode cX9_runners 71 = .ok (.iload_n 1, 1) := by decide +kernel
theorem dX9_runners_72 : decode cX9_runners 72 = .ok (.iconst (-1), 1) := by decide +kernel
theorem dX9_runners_73 : decode cX9_runners 73 = .ok (.if_icmp .eq 9, 3) := by decide +kernel
theorem dX9_runners_76 : decode cX9_runners 76 = .ok (.iload 4, 2) := by decide +kernel
theorem dX9_runners_78 : decode cX9_runners 78 = .ok (.iload_n 1, 1) := by decide +kernel
theorem dX9_runners_79 : decode cX9_runners 79 = .ok (.if_icmp .ge 8, 3) := by decide +kernel
theorem dX9_runners_82 : decode cX9_runners 82 = .ok (.iload 4, 2) := by decide +kernel
theorem dX9_runners_84 : decode cX9_runners 84 = .ok (.istore_n 1, 1) := by decide +kernel
theorem dX9_runners_85 : decode cX9_runners 85 = .ok (.iload_n 3, 1) := by decide +kernel
theorem dX9_runners_86 : decode cX9_runners 86 = .ok (.istore_n 2, 1) := by decide +kernel
theorem dX9_runners_87 : decode cX9_runners 87 = .ok (.iinc 3 1, 3) := by decide +kernel
theorem dX9_runners_90 : decode cX9_runners 90 = .ok (.goto (-61), 3) := by decide +kernel
theorem dX9_runners_93 : decode cX9_runners 93 = .ok (.iload_n 2, 1) := by decide +kernel
theorem dX9_runners_94 : decode cX9_runners 94 = .ok (.ireturn, 1) := by decide +kernel
theorem dX9_runs_0 : decode cX9_runs 0 = .ok (.aload_n 0, 1) := by decide +kernel
theorem dX9_runs_1 : decode cX9_runs 1 = .ok (.getfield 12, 3) := by decide +kernel
theorem dX9_runs_4 : decode cX9_runs 4 = .ok (.getfield 109, 3) := by decide +kernel
theorem dX9_runs_7 : decode cX9_runs 7 = .ok (.istore_n 1, 1) := by decide +kernel
theorem dX9_runs_8 : decode cX9_runs 8 = .ok (.aload_n 0, 1) := by decide +kernel
theorem dX9_runs_9 : decode cX9_runs 9 = .ok (.getfield 12, 3) := by decide +kernel
theorem dX9_runs_12 : decode cX9_runs 12 = .ok (.iconst 0, 1) := by decide +kernel
theorem dX9_runs_13 : decode cX9_runs 13 = .ok (.putfield 109, 3) := by decide +kernel
theorem dX9_runs_16 : decode cX9_runs 16 = .ok (.aload_n 0, 1) := by decide +kernel
theorem dX9_runs_17 : decode cX9_runs 17 = .ok (.getfield 19, 3) := by decide +kernel
theorem dX9_runs_20 : decode cX9_runs 20 = .ok (.getfield 222, 3) := by decide +kernel
theorem dX9_runs_23 : decode cX9_runs 23 = .ok (.ifCond .eq 8, 3) := by decide +kernel
theorem dX9_runs_26 : decode cX9_runs 26 = .ok (.iload_n 1, 1) := by decide +kernel
theorem dX9_runs_27 : decode cX9_runs 27 = .ok (.iconst 4, 1) := by decide +kernel
theorem dX9_runs_28 : decode cX9_runs 28 = .ok (.if_icmp .eq 5, 3) := by decide +kernel
theorem dX9_runs_31 : decode cX9_runs 31 = .ok (.iconst (-1), 1) := by decide +kernel
theorem dX9_runs_32 : decode cX9_runs 32 = .ok (.ireturn, 1) := by decide +kernel
theorem dX9_runs_33 : decode cX9_runs 33 = .ok (.iconst 0, 1) := by decide +kernel
theorem dX9_runs_34 : decode cX9_runs 34 = .ok (.istore_n 2, 1) := by decide +kernel
theorem dX9_runs_35 : decode cX9_runs 35 = .ok (.iconst 0, 1) := by decide +kernel
theorem dX9_runs_36 : decode cX9_runs 36 = .ok (.istore_n 3, 1) := by decide +kernel
theorem dX9_runs_37 : decode cX9_runs 37 = .ok (.iload_n 3, 1) := by decide +kernel
theorem dX9_runs_38 : decode cX9_runs 38 = .ok (.iconst 4, 1) := by decide +kernel
theorem dX9_runs_39 : decode cX9_runs 39 = .ok (.if_icmp .ge 52, 3) := by decide +kernel
theorem dX9_runs_42 : decode cX9_runs 42 = .ok (.aload_n 0, 1) := by decide +kernel
theorem dX9_runs_43 : decode cX9_runs 43 = .ok (.getfield 12, 3) := by decide +kernel
theorem dX9_runs_46 : decode cX9_runs 46 = .ok (.iload_n 3, 1) := by decide +kernel
theorem dX9_runs_47 : decode cX9_runs 47 = .ok (.invokevirtual 339, 3) := by decide +kernel
theorem dX9_runs_50 : decode cX9_runs 50 = .ok (.istore 4, 2) := by decide +kernel
theorem dX9_runs_52 : decode cX9_runs 52 = .ok (.iload 4, 2) := by decide +kernel
theorem dX9_runs_54 : decode cX9_runs 54 = .ok (.invokestatic 282, 3) := by decide +kernel
theorem dX9_runs_57 : decode cX9_runs 57 = .ok (.ifCond .eq 12, 3) := by decide +kernel
theorem dX9_runs_60 : decode cX9_runs 60 = .ok (.aload_n 0, 1) := by decide +kernel
theorem dX9_runs_61 : decode cX9_runs 61 = .ok (.iload 4, 2) := by decide +kernel
theorem dX9_runs_63 : decode cX9_runs 63 = .ok (.invokevirtual 342, 3) := by decide +kernel
theorem dX9_runs_66 : decode cX9_runs 66 = .ok (.goto 4, 3) := by decide +kernel
theorem dX9_runs_69 : decode cX9_runs 69 = .ok (.iconst (-1), 1) := by decide +kernel
theorem dX9_runs_70 : decode cX9_runs 70 = .ok (.istore 5, 2) := by decide +kernel
theorem dX9_runs_72 : decode cX9_runs 72 = .ok (.iload 5, 2) := by decide +kernel
theorem dX9_runs_74 : decode cX9_runs 74 = .ok (.iconst (-1), 1) := by decide +kernel
theorem dX9_runs_75 : decode cX9_runs 75 = .ok (.if_icmp .ne 5, 3) := by decide +kernel
theorem dX9_runs_78 : decode cX9_runs 78 = .ok (.iconst (-1), 1) := by decide +kernel
theorem dX9_runs_79 : decode cX9_runs 79 = .ok (.ireturn, 1) := by decide +kernel
theorem dX9_runs_80 : decode cX9_runs 80 = .ok (.iload_n 2, 1) := by decide +kernel
theorem dX9_runs_81 : decode cX9_runs 81 = .ok (.iload 5, 2) := by decide +kernel
theorem dX9_runs_83 : decode cX9_runs 83 = .ok (.iadd, 1) := by decide +kernel
theorem dX9_runs_84 : decode cX9_runs 84 = .ok (.istore_n 2, 1) := by decide +kernel
theorem dX9_runs_85 : decode cX9_runs 85 = .ok (.iinc 3 1, 3) := by decide +kernel
theorem dX9_runs_88 : decode cX9_runs 88 = .ok (.goto (-51), 3) := by decide +kernel
theorem dX9_runs_91 : decode cX9_runs 91 = .ok (.iload_n 2, 1) := by decide +kernel
theorem dX9_runs_92 : decode cX9_runs 92 = .ok (.ireturn, 1) := by decide +kernel
theorem dX9_worth_0 : decode cX9_worth 0 = .ok (.aload_n 0, 1) := by decide +kernel
theorem dX9_worth_1 : decode cX9_worth 1 = .ok (.getfield 19, 3) := by decide +kernel
theorem dX9_worth_4 : decode cX9_worth 4 = .ok (.getfield 222, 3) := by decide +kernel
theorem dX9_worth_7 : decode cX9_worth 7 = .ok (.ifCond .eq 17, 3) := by decide +kernel
theorem dX9_worth_10 : decode cX9_worth 10 = .ok (.iload_n 1, 1) := by decide +kernel
theorem dX9_worth_11 : decode cX9_worth 11 = .ok (.invokestatic 282, 3) := by decide +kernel
theorem dX9_worth_14 : decode cX9_worth 14 = .ok (.ifCond .eq 10, 3) := by decide +kernel
theorem dX9_worth_17 : decode cX9_worth 17 = .ok (.iload_n 2, 1) := by decide +kernel
theorem dX9_worth_18 : decode cX9_worth 18 = .ok (.invokestatic 282, 3) := by decide +kernel
theorem dX9_worth_21 : decode cX9_worth 21 = .ok (.ifCond .ne 7, 3) := by decide +kernel
theorem dX9_worth_24 : decode cX9_worth 24 = .ok (.ldc_w 335, 3) := by decide +kernel
theorem dX9_worth_27 : decode cX9_worth 27 = .ok (.ireturn, 1) := by decide +kernel
theorem dX9_worth_28 : decode cX9_worth 28 = .ok (.aload_n 0, 1) := by decide +kernel
theorem dX9_worth_29 : decode cX9_worth 29 = .ok (.iload_n 1, 1) := by decide +kernel
theorem dX9_worth_30 : decode cX9_worth 30 = .ok (.invokevirtual 342, 3) := by decide +kernel
theorem dX9_worth_33 : decode cX9_worth 33 = .ok (.aload_n 0, 1) := by decide +kernel
theorem dX9_worth_34 : decode cX9_worth 34 = .ok (.iload_n 2, 1) := by decide +kernel
theorem dX9_worth_35 : decode cX9_worth 35 = .ok (.invokevirtual 342, 3) := by decide +kernel
theorem dX9_worth_38 : decode cX9_worth 38 = .ok (.invokestatic 336, 3) := by decide +kernel
theorem dX9_worth_41 : decode cX9_worth 41 = .ok (.ireturn, 1) := by decide +kernel
theorem dX9_keep_0 : decode cX9_keep 0 = .ok (.aload_n 0, 1) := by decide +kernel
theorem dX9_keep_1 : decode cX9_keep 1 = .ok (.getfield 19, 3) := by decide +kernel
theorem dX9_keep_4 : decode cX9_keep 4 = .ok (.getfield 222, 3) := by decide +kernel
theorem dX9_keep_7 : decode cX9_keep 7 = .ok (.ifCond .ne 5, 3) := by decide +kernel
theorem dX9_keep_10 : decode cX9_keep 10 = .ok (.iconst 0, 1) := by decide +kernel
theorem dX9_keep_11 : decode cX9_keep 11 = .ok (.ireturn, 1) := by decide +kernel
theorem dX9_keep_12 : decode cX9_keep 12 = .ok (.aload_n 0, 1) := by decide +kernel
theorem dX9_keep_13 : decode cX9_keep 13 = .ok (.getfield 23, 3) := by decide +kernel
theorem dX9_keep_16 : decode cX9_keep 16 = .ok (.aload_n 0, 1) := by decide +kernel
theorem dX9_keep_17 : decode cX9_keep 17 = .ok (.getfield 19, 3) := by decide +kernel
theorem dX9_keep_20 : decode cX9_keep 20 = .ok (.invokevirtual 132, 3) := by decide +kernel
theorem dX9_keep_23 : decode cX9_keep 23 = .ok (.aload_n 0, 1) := by decide +kernel
theorem dX9_keep_24 : decode cX9_keep 24 = .ok (.iconst 1, 1) := by decide +kernel
theorem dX9_keep_25 : decode cX9_keep 25 = .ok (.putfield 80, 3) := by decide +kernel
theorem dX9_keep_28 : decode cX9_keep 28 = .ok (.iconst 1, 1) := by decide +kernel
theorem dX9_keep_29 : decode cX9_keep 29 = .ok (.ireturn, 1) := by decide +kernel
theorem dX9_lost_0 : decode cX9_lost 0 = .ok (.aload_n 0, 1) := by decide +kernel
theorem dX9_lost_1 : decode cX9_lost 1 = .ok (.getfield 19, 3) := by decide +kernel
theorem dX9_lost_4 : decode cX9_lost 4 = .ok (.getfield 222, 3) := by decide +kernel
theorem dX9_lost_7 : decode cX9_lost 7 = .ok (.ifCond .eq 19, 3) := by decide +kernel
theorem dX9_lost_10 : decode cX9_lost 10 = .ok (.aload_n 0, 1) := by decide +kernel
theorem dX9_lost_11 : decode cX9_lost 11 = .ok (.getfield 80, 3) := by decide +kernel
theorem dX9_lost_14 : decode cX9_lost 14 = .ok (.ifCond .eq 12, 3) := by decide +kernel
theorem dX9_lost_17 : decode cX9_lost 17 = .ok (.iload_n 1, 1) := by decide +kernel
theorem dX9_lost_18 : decode cX9_lost 18 = .ok (.ifCond .lt 8, 3) := by decide +kernel
theorem dX9_lost_21 : decode cX9_lost 21 = .ok (.iload_n 1, 1) := by decide +kernel
theorem dX9_lost_22 : decode cX9_lost 22 = .ok (.iconst 3, 1) := by decide +kernel
theorem dX9_lost_23 : decode cX9_lost 23 = .ok (.if_icmp .le 7, 3) := by decide +kernel
theorem dX9_lost_26 : decode cX9_lost 26 = .ok (.ldc_w 335, 3) := by decide +kernel
theorem dX9_lost_29 : decode cX9_lost 29 = .ok (.ireturn, 1) := by decide +kernel
theorem dX9_lost_30 : decode cX9_lost 30 = .ok (.aload_n 0, 1) := by decide +kernel
theorem dX9_lost_31 : decode cX9_lost 31 = .ok (.getfield 32, 3) := by decide +kernel
theorem dX9_lost_34 : decode cX9_lost 34 = .ok (.aload_n 0, 1) := by decide +kernel
theorem dX9_lost_35 : decode cX9_lost 35 = .ok (.getfield 64, 3) := by decide +kernel
theorem dX9_lost_38 : decode cX9_lost 38 = .ok (.aload_n 0, 1) := by decide +kernel
theorem dX9_lost_39 : decode cX9_lost 39 = .ok (.getfield 19, 3) := by decide +kernel
theorem dX9_lost_42 : decode cX9_lost 42 = .ok (.invokevirtual 225, 3) := by decide +kernel
theorem dX9_lost_45 : decode cX9_lost 45 = .ok (.istore_n 2, 1) := by decide +kernel
theorem dX9_lost_46 : decode cX9_lost 46 = .ok (.aload_n 0, 1) := by decide +kernel
theorem dX9_lost_47 : decode cX9_lost 47 = .ok (.getfield 36, 3) := by decide +kernel
theorem dX9_lost_50 : decode cX9_lost 50 = .ok (.aload_n 0, 1) := by decide +kernel
theorem dX9_lost_51 : decode cX9_lost 51 = .ok (.getfield 64, 3) := by decide +kernel
theorem dX9_lost_54 : decode cX9_lost 54 = .ok (.aload_n 0, 1) := by decide +kernel
theorem dX9_lost_55 : decode cX9_lost 55 = .ok (.getfield 23, 3) := by decide +kernel
theorem dX9_lost_58 : decode cX9_lost 58 = .ok (.invokevirtual 225, 3) := by decide +kernel
theorem dX9_lost_61 : decode cX9_lost 61 = .ok (.istore_n 3, 1) := by decide +kernel
theorem dX9_lost_62 : decode cX9_lost 62 = .ok (.aload_n 0, 1) := by decide +kernel
theorem dX9_lost_63 : decode cX9_lost 63 = .ok (.getfield 36, 3) := by decide +kernel
theorem dX9_lost_66 : decode cX9_lost 66 = .ok (.getfield 229, 3) := by decide +kernel
theorem dX9_lost_69 : decode cX9_lost 69 = .ok (.istore 4, 2) := by decide +kernel
theorem dX9_lost_71 : decode cX9_lost 71 = .ok (.iload_n 3, 1) := by decide +kernel
theorem dX9_lost_72 : decode cX9_lost 72 = .ok (.iload 4, 2) := by decide +kernel
theorem dX9_lost_74 : decode cX9_lost 74 = .ok (.isub, 1) := by decide +kernel
theorem dX9_lost_75 : decode cX9_lost 75 = .ok (.istore 5, 2) := by decide +kernel
theorem dX9_lost_77 : decode cX9_lost 77 = .ok (.aload_n 0, 1) := by decide +kernel
theorem dX9_lost_78 : decode cX9_lost 78 = .ok (.getfield 36, 3) := by decide +kernel
theorem dX9_lost_81 : decode cX9_lost 81 = .ok (.aload_n 0, 1) := by decide +kernel
theorem dX9_lost_82 : decode cX9_lost 82 = .ok (.getfield 64, 3) := by decide +kernel
theorem dX9_lost_85 : decode cX9_lost 85 = .ok (.aload_n 0, 1) := by decide +kernel
theorem dX9_lost_86 : decode cX9_lost 86 = .ok (.getfield 23, 3) := by decide +kernel
theorem dX9_lost_89 : decode cX9_lost 89 = .ok (.aload_n 0, 1) := by decide +kernel
theorem dX9_lost_90 : decode cX9_lost 90 = .ok (.getfield 32, 3) := by decide +kernel
theorem dX9_lost_93 : decode cX9_lost 93 = .ok (.getfield 232, 3) := by decide +kernel
theorem dX9_lost_96 : decode cX9_lost 96 = .ok (.aload_n 0, 1) := by decide +kernel
theorem dX9_lost_97 : decode cX9_lost 97 = .ok (.getfield 36, 3) := by decide +kernel
theorem dX9_lost_100 : decode cX9_lost 100 = .ok (.getfield 241, 3) := by decide +kernel
theorem dX9_lost_103 : decode cX9_lost 103 = .ok (.invokevirtual 345, 3) := by decide +kernel
theorem dX9_lost_106 : decode cX9_lost 106 = .ok (.istore 6, 2) := by decide +kernel
theorem dX9_lost_108 : decode cX9_lost 108 = .ok (.iload_n 2, 1) := by decide +kernel
theorem dX9_lost_109 : decode cX9_lost 109 = .ok (.iconst (-1), 1) := by decide +kernel
theorem dX9_lost_110 : decode cX9_lost 110 = .ok (.if_icmp .eq 14, 3) := by decide +kernel
theorem dX9_lost_113 : decode cX9_lost 113 = .ok (.iload_n 3, 1) := by decide +kernel
theorem dX9_lost_114 : decode cX9_lost 114 = .ok (.iconst (-1), 1) := by decide +kernel
theorem dX9_lost_115 : decode cX9_lost 115 = .ok (.if_icmp .eq 9, 3) := by decide +kernel
theorem dX9_lost_118 : decode cX9_lost 118 = .ok (.iload 6, 2) := by decide +kernel
theorem dX9_lost_120 : decode cX9_lost 120 = .ok (.iconst (-1), 1) := by decide +kernel
theorem dX9_lost_121 : decode cX9_lost 121 = .ok (.if_icmp .ne 7, 3) := by decide +kernel
theorem dX9_lost_124 : decode cX9_lost 124 = .ok (.ldc_w 335, 3) := by decide +kernel
theorem dX9_lost_127 : decode cX9_lost 127 = .ok (.ireturn, 1) := by decide +kernel
theorem dX9_lost_128 : decode cX9_lost 128 = .ok (.iload_n 2, 1) := by decide +kernel
theorem dX9_lost_129 : decode cX9_lost 129 = .ok (.iload_n 3, 1) := by decide +kernel
theorem dX9_lost_130 : decode cX9_lost 130 = .ok (.isub, 1) := by decide +kernel
theorem dX9_lost_131 : decode cX9_lost 131 = .ok (.istore 7, 2) := by decide +kernel
theorem dX9_lost_133 : decode cX9_lost 133 = .ok (.aload_n 0, 1) := by decide +kernel
theorem dX9_lost_134 : decode cX9_lost 134 = .ok (.getfield 32, 3) := by decide +kernel
theorem dX9_lost_137 : decode cX9_lost 137 = .ok (.getfield 229, 3) := by decide +kernel
theorem dX9_lost_140 : decode cX9_lost 140 = .ok (.iload 4, 2) := by decide +kernel
theorem dX9_lost_142 : decode cX9_lost 142 = .ok (.isub, 1) := by decide +kernel
theorem dX9_lost_143 : decode cX9_lost 143 = .ok (.istore 8, 2) := by decide +kernel
theorem dX9_lost_145 : decode cX9_lost 145 = .ok (.iload 6, 2) := by decide +kernel
theorem dX9_lost_147 : decode cX9_lost 147 = .ok (.iload 5, 2) := by decide +kernel
theorem dX9_lost_149 : decode cX9_lost 149 = .ok (.isub, 1) := by decide +kernel
theorem dX9_lost_150 : decode cX9_lost 150 = .ok (.istore 9, 2) := by decide +kernel
theorem dX9_lost_152 : decode cX9_lost 152 = .ok (.iload_n 1, 1) := by decide +kernel
theorem dX9_lost_153 : decode cX9_lost 153 = .ok (.tableswitch 42 0 2 #[27, 30, 33], 27) := by decide +kernel
theorem dX9_lost_180 : decode cX9_lost 180 = .ok (.iload 8, 2) := by decide +kernel
theorem dX9_lost_182 : decode cX9_lost 182 = .ok (.ireturn, 1) := by decide +kernel
theorem dX9_lost_183 : decode cX9_lost 183 = .ok (.iload 9, 2) := by decide +kernel
theorem dX9_lost_185 : decode cX9_lost 185 = .ok (.ireturn, 1) := by decide +kernel
theorem dX9_lost_186 : decode cX9_lost 186 = .ok (.iload 7, 2) := by decide +kernel
theorem dX9_lost_188 : decode cX9_lost 188 = .ok (.iload 8, 2) := by decide +kernel
theorem dX9_lost_190 : decode cX9_lost 190 = .ok (.isub, 1) := by decide +kernel
theorem dX9_lost_191 : decode cX9_lost 191 = .ok (.iload 9, 2) := by decide +kernel
theorem dX9_lost_193 : decode cX9_lost 193 = .ok (.isub, 1) := by decide +kernel
theorem dX9_lost_194 : decode cX9_lost 194 = .ok (.ireturn, 1) := by decide +kernel
theorem dX9_lost_195 : decode cX9_lost 195 = .ok (.iload 7, 2) := by decide +kernel
theorem dX9_lost_197 : decode cX9_lost 197 = .ok (.ireturn, 1) := by decide +kernel
theorem dX9_touch_0 : decode cX9_touch 0 = .ok (.aload_n 0, 1) := by decide +kernel
theorem dX9_touch_1 : decode cX9_touch 1 = .ok (.getfield 19, 3) := by decide +kernel
theorem dX9_touch_4 : decode cX9_touch 4 = .ok (.getfield 222, 3) := by decide +kernel
theorem dX9_touch_7 : decode cX9_touch 7 = .ok (.ifCond .eq 29, 3) := by decide +kernel
theorem dX9_touch_10 : decode cX9_touch 10 = .ok (.iload_n 1, 1) := by decide +kernel
theorem dX9_touch_11 : decode cX9_touch 11 = .ok (.ifCond .lt 25, 3) := by decide +kernel
theorem dX9_touch_14 : decode cX9_touch 14 = .ok (.iload_n 1, 1) := by decide +kernel
theorem dX9_touch_15 : decode cX9_touch 15 = .ok (.aload_n 0, 1) := by decide +kernel
theorem dX9_touch_16 : decode cX9_touch 16 = .ok (.getfield 64, 3) := by decide +kernel
theorem dX9_touch_19 : decode cX9_touch 19 = .ok (.getfield 180, 3) := by decide +kernel
theorem dX9_touch_22 : decode cX9_touch 22 = .ok (.if_icmp .ge 14, 3) := by decide +kernel
theorem dX9_touch_25 : decode cX9_touch 25 = .ok (.iload_n 2, 1) := by decide +kernel
theorem dX9_touch_26 : decode cX9_touch 26 = .ok (.iconst 1, 1) := by decide +kernel
theorem dX9_touch_27 : decode cX9_touch 27 = .ok (.if_icmp .lt 9, 3) := by decide +kernel
theorem dX9_touch_30 : decode cX9_touch 30 = .ok (.iload_n 2, 1) := by decide +kernel
theorem dX9_touch_31 : decode cX9_touch 31 = .ok (.bipush 99, 2) := by decide +kernel
theorem dX9_touch_33 : decode cX9_touch 33 = .ok (.if_icmp .le 7, 3) := by decide +kernel
theorem dX9_touch_36 : decode cX9_touch 36 = .ok (.ldc_w 335, 3) := by decide +kernel
theorem dX9_touch_39 : decode cX9_touch 39 = .ok (.ireturn, 1) := by decide +kernel
theorem dX9_touch_40 : decode cX9_touch 40 = .ok (.aload_n 0, 1) := by decide +kernel
theorem dX9_touch_41 : decode cX9_touch 41 = .ok (.getfield 32, 3) := by decide +kernel
theorem dX9_touch_44 : decode cX9_touch 44 = .ok (.aload_n 0, 1) := by decide +kernel
theorem dX9_touch_45 : decode cX9_touch 45 = .ok (.getfield 64, 3) := by decide +kernel
theorem dX9_touch_48 : decode cX9_touch 48 = .ok (.aload_n 0, 1) := by decide +kernel
theorem dX9_touch_49 : decode cX9_touch 49 = .ok (.getfield 19, 3) := by decide +kernel
theorem dX9_touch_52 : decode cX9_touch 52 = .ok (.invokevirtual 225, 3) := by decide +kernel
theorem dX9_touch_55 : decode cX9_touch 55 = .ok (.aload_n 0, 1) := by decide +kernel
theorem dX9_touch_56 : decode cX9_touch 56 = .ok (.getfield 36, 3) := by decide +kernel
theorem dX9_touch_59 : decode cX9_touch 59 = .ok (.aload_n 0, 1) := by decide +kernel
theorem dX9_touch_60 : decode cX9_touch 60 = .ok (.getfield 64, 3) := by decide +kernel
theorem dX9_touch_63 : decode cX9_touch 63 = .ok (.aload_n 0, 1) := by decide +kernel
theorem dX9_touch_64 : decode cX9_touch 64 = .ok (.getfield 19, 3) := by decide +kernel
theorem dX9_touch_67 : decode cX9_touch 67 = .ok (.iload_n 1, 1) := by decide +kernel
theorem dX9_touch_68 : decode cX9_touch 68 = .ok (.iload_n 2, 1) := by decide +kernel
theorem dX9_touch_69 : decode cX9_touch 69 = .ok (.invokevirtual 348, 3) := by decide +kernel
theorem dX9_touch_72 : decode cX9_touch 72 = .ok (.invokestatic 336, 3) := by decide +kernel
theorem dX9_touch_75 : decode cX9_touch 75 = .ok (.ireturn, 1) := by decide +kernel
theorem dX9_isNumber_0 : decode cX9_isNumber 0 = .ok (.iload_n 0, 1) := by decide +kernel
theorem dX9_isNumber_1 : decode cX9_isNumber 1 = .ok (.iconst 1, 1) := by decide +kernel
theorem dX9_isNumber_2 : decode cX9_isNumber 2 = .ok (.if_icmp .lt 13, 3) := by decide +kernel
theorem dX9_isNumber_5 : decode cX9_isNumber 5 = .ok (.iload_n 0, 1) := by decide +kernel
theorem dX9_isNumber_6 : decode cX9_isNumber 6 = .ok (.bipush 60, 2) := by decide +kernel
theorem dX9_isNumber_8 : decode cX9_isNumber 8 = .ok (.if_icmp .gt 7, 3) := by decide +kernel
theorem dX9_isNumber_11 : decode cX9_isNumber 11 = .ok (.iconst 1, 1) := by decide +kernel
theorem dX9_isNumber_12 : decode cX9_isNumber 12 = .ok (.goto 4, 3) := by decide +kernel
theorem dX9_isNumber_15 : decode cX9_isNumber 15 = .ok (.iconst 0, 1) := by decide +kernel
theorem dX9_isNumber_16 : decode cX9_isNumber 16 = .ok (.ireturn, 1) := by decide +kernel
theorem dX9_drawn_0 : decode cX9_drawn 0 = .ok (.aload_n 0, 1) := by decide +kernel
theorem dX9_drawn_1 : decode cX9_drawn 1 = .ok (.getfield 19, 3) := by decide +kernel
theorem dX9_drawn_4 : decode cX9_drawn 4 = .ok (.getfield 222, 3) := by decide +kernel
theorem dX9_drawn_7 : decode cX9_drawn 7 = .ok (.ifCond .eq 22, 3) := by decide +kernel
theorem dX9_drawn_10 : decode cX9_drawn 10 = .ok (.aload_n 0, 1) := by decide +kernel
theorem dX9_drawn_11 : decode cX9_drawn 11 = .ok (.getfield 32, 3) := by decide +kernel
theorem dX9_drawn_14 : decode cX9_drawn 14 = .ok (.aload_n 0, 1) := by decide +kernel
theorem dX9_drawn_15 : decode cX9_drawn 15 = .ok (.getfield 64, 3) := by decide +kernel
theorem dX9_drawn_18 : decode cX9_drawn 18 = .ok (.aload_n 0, 1) := by decide +kernel
theorem dX9_drawn_19 : decode cX9_drawn 19 = .ok (.getfield 19, 3) := by decide +kernel
theorem dX9_drawn_22 : decode cX9_drawn 22 = .ok (.iload_n 1, 1) := by decide +kernel
theorem dX9_drawn_23 : decode cX9_drawn 23 = .ok (.invokevirtual 351, 3) := by decide +kernel
theorem dX9_drawn_26 : decode cX9_drawn 26 = .ok (.goto 4, 3) := by decide +kernel
theorem dX9_drawn_29 : decode cX9_drawn 29 = .ok (.iconst (-1), 1) := by decide +kernel
theorem dX9_drawn_30 : decode cX9_drawn 30 = .ok (.ireturn, 1) := by decide +kernel
theorem dX9_odds_0 : decode cX9_odds 0 = .ok (.aload_n 0, 1) := by decide +kernel
theorem dX9_odds_1 : decode cX9_odds 1 = .ok (.getfield 19, 3) := by decide +kernel
theorem dX9_odds_4 : decode cX9_odds 4 = .ok (.getfield 222, 3) := by decide +kernel
theorem dX9_odds_7 : decode cX9_odds 7 = .ok (.ifCond .eq 14, 3) := by decide +kernel
theorem dX9_odds_10 : decode cX9_odds 10 = .ok (.iload_n 1, 1) := by decide +kernel
theorem dX9_odds_11 : decode cX9_odds 11 = .ok (.iconst 1, 1) := by decide +kernel
theorem dX9_odds_12 : decode cX9_odds 12 = .ok (.if_icmp .lt 9, 3) := by decide +kernel
theorem dX9_odds_15 : decode cX9_odds 15 = .ok (.iload_n 1, 1) := by decide +kernel
theorem dX9_odds_16 : decode cX9_odds 16 = .ok (.bipush 60, 2) := by decide +kernel
theorem dX9_odds_18 : decode cX9_odds 18 = .ok (.if_icmp .le 5, 3) := by decide +kernel
theorem dX9_odds_21 : decode cX9_odds 21 = .ok (.iconst (-1), 1) := by decide +kernel
theorem dX9_odds_22 : decode cX9_odds 22 = .ok (.ireturn, 1) := by decide +kernel
theorem dX9_odds_23 : decode cX9_odds 23 = .ok (.iconst 0, 1) := by decide +kernel
theorem dX9_odds_24 : decode cX9_odds 24 = .ok (.istore 4, 2) := by decide +kernel
theorem dX9_odds_26 : decode cX9_odds 26 = .ok (.iconst 0, 1) := by decide +kernel
theorem dX9_odds_27 : decode cX9_odds 27 = .ok (.istore 5, 2) := by decide +kernel
theorem dX9_odds_29 : decode cX9_odds 29 = .ok (.iload 5, 2) := by decide +kernel
theorem dX9_odds_31 : decode cX9_odds 31 = .ok (.iload_n 1, 1) := by decide +kernel
theorem dX9_odds_32 : decode cX9_odds 32 = .ok (.if_icmp .ge 45, 3) := by decide +kernel
theorem dX9_odds_35 : decode cX9_odds 35 = .ok (.aload_n 0, 1) := by decide +kernel
theorem dX9_odds_36 : decode cX9_odds 36 = .ok (.getfield 32, 3) := by decide +kernel
theorem dX9_odds_39 : decode cX9_odds 39 = .ok (.aload_n 0, 1) := by decide +kernel
theorem dX9_odds_40 : decode cX9_odds 40 = .ok (.getfield 64, 3) := by decide +kernel
theorem dX9_odds_43 : decode cX9_odds 43 = .ok (.aload_n 0, 1) := by decide +kernel
theorem dX9_odds_44 : decode cX9_odds 44 = .ok (.getfield 19, 3) := by decide +kernel
theorem dX9_odds_47 : decode cX9_odds 47 = .ok (.iload_n 2, 1) := by decide +kernel
theorem dX9_odds_48 : decode cX9_odds 48 = .ok (.iload 5, 2) := by decide +kernel
theorem dX9_odds_50 : decode cX9_odds 50 = .ok (.iadd, 1) := by decide +kernel
theorem dX9_odds_51 : decode cX9_odds 51 = .ok (.invokevirtual 351, 3) := by decide +kernel
theorem dX9_odds_54 : decode cX9_odds 54 = .ok (.istore 6, 2) := by decide +kernel
theorem dX9_odds_56 : decode cX9_odds 56 = .ok (.iload 6, 2) := by decide +kernel
theorem dX9_odds_58 : decode cX9_odds 58 = .ok (.iconst (-1), 1) := by decide +kernel
theorem dX9_odds_59 : decode cX9_odds 59 = .ok (.if_icmp .eq 12, 3) := by decide +kernel
theorem dX9_odds_62 : decode cX9_odds 62 = .ok (.iload 6, 2) := by decide +kernel
theorem dX9_odds_64 : decode cX9_odds 64 = .ok (.iload_n 3, 1) := by decide +kernel
theorem dX9_odds_65 : decode cX9_odds 65 = .ok (.if_icmp .ge 6, 3) := by decide +kernel
theorem dX9_odds_68 : decode cX9_odds 68 = .ok (.iinc 4 1, 3) := by decide +kernel
theorem dX9_odds_71 : decode cX9_odds 71 = .ok (.iinc 5 1, 3) := by decide +kernel
theorem dX9_odds_74 : decode cX9_odds 74 = .ok (.goto (-45), 3) := by decide +kernel
theorem dX9_odds_77 : decode cX9_odds 77 = .ok (.iload 4, 2) := by decide +kernel
theorem dX9_odds_79 : decode cX9_odds 79 = .ok (.ireturn, 1) := by decide +kernel
theorem dX9_said_0 : decode cX9_said 0 = .ok (.aload_n 0, 1) := by decide +kernel
theorem dX9_said_1 : decode cX9_said 1 = .ok (.getfield 68, 3) := by decide +kernel
theorem dX9_said_4 : decode cX9_said 4 = .ok (.ifnull 8, 3) := by decide +kernel
theorem dX9_said_7 : decode cX9_said 7 = .ok (.iload_n 1, 1) := by decide +kernel
theorem dX9_said_8 : decode cX9_said 8 = .ok (.iconst (-1), 1) := by decide +kernel
theorem dX9_said_9 : decode cX9_said 9 = .ok (.if_icmp .ge 5, 3) := by decide +kernel
theorem dX9_said_12 : decode cX9_said 12 = .ok (.iconst (-1), 1) := by decide +kernel
theorem dX9_said_13 : decode cX9_said 13 = .ok (.ireturn, 1) := by decide +kernel
theorem dX9_said_14 : decode cX9_said 14 = .ok (.aload_n 0, 1) := by decide +kernel
theorem dX9_said_15 : decode cX9_said 15 = .ok (.getfield 19, 3) := by decide +kernel
theorem dX9_said_18 : decode cX9_said 18 = .ok (.getfield 222, 3) := by decide +kernel
theorem dX9_said_21 : decode cX9_said 21 = .ok (.ifCond .eq 10, 3) := by decide +kernel
theorem dX9_said_24 : decode cX9_said 24 = .ok (.aload_n 0, 1) := by decide +kernel
theorem dX9_said_25 : decode cX9_said 25 = .ok (.invokevirtual 355, 3) := by decide +kernel
theorem dX9_said_28 : decode cX9_said 28 = .ok (.goto 4, 3) := by decide +kernel
theorem dX9_said_31 : decode cX9_said 31 = .ok (.iconst 0, 1) := by decide +kernel
theorem dX9_said_32 : decode cX9_said 32 = .ok (.istore_n 2, 1) := by decide +kernel
theorem dX9_said_33 : decode cX9_said 33 = .ok (.iconst 0, 1) := by decide +kernel
theorem dX9_said_34 : decode cX9_said 34 = .ok (.istore_n 3, 1) := by decide +kernel
theorem dX9_said_35 : decode cX9_said 35 = .ok (.iconst 0, 1) := by decide +kernel
theorem dX9_said_36 : decode cX9_said 36 = .ok (.istore 4, 2) := by decide +kernel
theorem dX9_said_38 : decode cX9_said 38 = .ok (.iload 4, 2) := by decide +kernel
theorem dX9_said_40 : decode cX9_said 40 = .ok (.aload_n 0, 1) := by decide +kernel
theorem dX9_said_41 : decode cX9_said 41 = .ok (.getfield 64, 3) := by decide +kernel
theorem dX9_said_44 : decode cX9_said 44 = .ok (.getfield 153, 3) := by decide +kernel
theorem dX9_said_47 : decode cX9_said 47 = .ok (.if_icmp .ge 41, 3) := by decide +kernel
theorem dX9_said_50 : decode cX9_said 50 = .ok (.aload_n 0, 1) := by decide +kernel
theorem dX9_said_51 : decode cX9_said 51 = .ok (.getfield 68, 3) := by decide +kernel
theorem dX9_said_54 : decode cX9_said 54 = .ok (.iload 4, 2) := by decide +kernel
theorem dX9_said_56 : decode cX9_said 56 = .ok (.aload_n 0, 1) := by decide +kernel
theorem dX9_said_57 : decode cX9_said 57 = .ok (.getfield 64, 3) := by decide +kernel
theorem dX9_said_60 : decode cX9_said 60 = .ok (.aload_n 0, 1) := by decide +kernel
theorem dX9_said_61 : decode cX9_said 61 = .ok (.getfield 19, 3) := by decide +kernel
theorem dX9_said_64 : decode cX9_said 64 = .ok (.iload_n 2, 1) := by decide +kernel
theorem dX9_said_65 : decode cX9_said 65 = .ok (.invokevirtual 359, 3) := by decide +kernel
theorem dX9_said_68 : decode cX9_said 68 = .ok (.ifCond .eq 14, 3) := by decide +kernel
theorem dX9_said_71 : decode cX9_said 71 = .ok (.iload_n 3, 1) := by decide +kernel
theorem dX9_said_72 : decode cX9_said 72 = .ok (.iload_n 1, 1) := by decide +kernel
theorem dX9_said_73 : decode cX9_said 73 = .ok (.if_icmp .ne 6, 3) := by decide +kernel
theorem dX9_said_76 : decode cX9_said 76 = .ok (.iload 4, 2) := by decide +kernel
theorem dX9_said_78 : decode cX9_said 78 = .ok (.ireturn, 1) := by decide +kernel
theorem dX9_said_79 : decode cX9_said 79 = .ok (.iinc 3 1, 3) := by decide +kernel
theorem dX9_said_82 : decode cX9_said 82 = .ok (.iinc 4 1, 3) := by decide +kernel
theorem dX9_said_85 : decode cX9_said 85 = .ok (.goto (-47), 3) := by decide +kernel
theorem dX9_said_88 : decode cX9_said 88 = .ok (.iload_n 1, 1) := by decide +kernel
theorem dX9_said_89 : decode cX9_said 89 = .ok (.iconst (-1), 1) := by decide +kernel
theorem dX9_said_90 : decode cX9_said 90 = .ok (.if_icmp .ne 7, 3) := by decide +kernel
theorem dX9_said_93 : decode cX9_said 93 = .ok (.iload_n 3, 1) := by decide +kernel
theorem dX9_said_94 : decode cX9_said 94 = .ok (.goto 4, 3) := by decide +kernel
theorem dX9_said_97 : decode cX9_said 97 = .ok (.iconst (-1), 1) := by decide +kernel
theorem dX9_said_98 : decode cX9_said 98 = .ok (.ireturn, 1) := by decide +kernel
theorem dX9_image_0 : decode cX9_image 0 = .ok (.iload_n 1, 1) := by decide +kernel
theorem dX9_image_1 : decode cX9_image 1 = .ok (.ifCond .lt 8, 3) := by decide +kernel
theorem dX9_image_4 : decode cX9_image 4 = .ok (.iload_n 1, 1) := by decide +kernel
theorem dX9_image_5 : decode cX9_image 5 = .ok (.iconst 2, 1) := by decide +kernel
theorem dX9_image_6 : decode cX9_image 6 = .ok (.if_icmp .lt 5, 3) := by decide +kernel
theorem dX9_image_9 : decode cX9_image 9 = .ok (.iconst 0, 1) := by decide +kernel
theorem dX9_image_10 : decode cX9_image 10 = .ok (.ireturn, 1) := by decide +kernel
theorem dX9_image_11 : decode cX9_image 11 = .ok (.aload_n 0, 1) := by decide +kernel
theorem dX9_image_12 : decode cX9_image 12 = .ok (.getfield 45, 3) := by decide +kernel
theorem dX9_image_15 : decode cX9_image 15 = .ok (.iload_n 1, 1) := by decide +kernel
theorem dX9_image_16 : decode cX9_image 16 = .ok (.aaload, 1) := by decide +kernel
theorem dX9_image_17 : decode cX9_image 17 = .ok (.astore_n 2, 1) := by decide +kernel
theorem dX9_image_18 : decode cX9_image 18 = .ok (.aload_n 2, 1) := by decide +kernel
theorem dX9_image_19 : decode cX9_image 19 = .ok (.aload_n 0, 1) := by decide +kernel
theorem dX9_image_20 : decode cX9_image 20 = .ok (.getfield 64, 3) := by decide +kernel
theorem dX9_image_23 : decode cX9_image 23 = .ok (.putfield 363, 3) := by decide +kernel
theorem dX9_image_26 : decode cX9_image 26 = .ok (.aload_n 2, 1) := by decide +kernel
theorem dX9_image_27 : decode cX9_image 27 = .ok (.getfield 364, 3) := by decide +kernel
theorem dX9_image_30 : decode cX9_image 30 = .ok (.aload_n 0, 1) := by decide +kernel
theorem dX9_image_31 : decode cX9_image 31 = .ok (.getfield 19, 3) := by decide +kernel
theorem dX9_image_34 : decode cX9_image 34 = .ok (.invokevirtual 132, 3) := by decide +kernel
theorem dX9_image_37 : decode cX9_image 37 = .ok (.aload_n 2, 1) := by decide +kernel
theorem dX9_image_38 : decode cX9_image 38 = .ok (.getfield 365, 3) := by decide +kernel
theorem dX9_image_41 : decode cX9_image 41 = .ok (.aload_n 0, 1) := by decide +kernel
theorem dX9_image_42 : decode cX9_image 42 = .ok (.getfield 23, 3) := by decide +kernel
theorem dX9_image_45 : decode cX9_image 45 = .ok (.invokevirtual 132, 3) := by decide +kernel
theorem dX9_image_48 : decode cX9_image 48 = .ok (.aload_n 2, 1) := by decide +kernel
theorem dX9_image_49 : decode cX9_image 49 = .ok (.aload_n 0, 1) := by decide +kernel
theorem dX9_image_50 : decode cX9_image 50 = .ok (.getfield 80, 3) := by decide +kernel
theorem dX9_image_53 : decode cX9_image 53 = .ok (.putfield 366, 3) := by decide +kernel
theorem dX9_image_56 : decode cX9_image 56 = .ok (.aload_n 2, 1) := by decide +kernel
theorem dX9_image_57 : decode cX9_image 57 = .ok (.aload_n 0, 1) := by decide +kernel
theorem dX9_image_58 : decode cX9_image 58 = .ok (.getfield 68, 3) := by decide +kernel
theorem dX9_image_61 : decode cX9_image 61 = .ok (.putfield 367, 3) := by decide +kernel
theorem dX9_image_64 : decode cX9_image 64 = .ok (.iconst 1, 1) := by decide +kernel
theorem dX9_image_65 : decode cX9_image 65 = .ok (.ireturn, 1) := by decide +kernel
theorem dX9_restore_0 : decode cX9_restore 0 = .ok (.iload_n 1, 1) := by decide +kernel
theorem dX9_restore_1 : decode cX9_restore 1 = .ok (.ifCond .lt 20, 3) := by decide +kernel
theorem dX9_restore_4 : decode cX9_restore 4 = .ok (.iload_n 1, 1) := by decide +kernel
theorem dX9_restore_5 : decode cX9_restore 5 = .ok (.iconst 2, 1) := by decide +kernel
theorem dX9_restore_6 : decode cX9_restore 6 = .ok (.if_icmp .ge 15, 3) := by decide +kernel
theorem dX9_restore_9 : decode cX9_restore 9 = .ok (.aload_n 0, 1) := by decide +kernel
theorem dX9_restore_10 : decode cX9_restore 10 = .ok (.getfield 45, 3) := by decide +kernel
theorem dX9_restore_13 : decode cX9_restore 13 = .ok (.iload_n 1, 1) := by decide +kernel
theorem dX9_restore_14 : decode cX9_restore 14 = .ok (.aaload, 1) := by decide +kernel
theorem dX9_restore_15 : decode cX9_restore 15 = .ok (.getfield 363, 3) := by decide +kernel
theorem dX9_restore_18 : decode cX9_restore 18 = .ok (.ifnonnull 5, 3) := by decide +kernel
theorem dX9_restore_21 : decode cX9_restore 21 = .ok (.iconst 0, 1) := by decide +kernel
theorem dX9_restore_22 : decode cX9_restore 22 = .ok (.ireturn, 1) := by decide +kernel
theorem dX9_restore_23 : decode cX9_restore 23 = .ok (.aload_n 0, 1) := by decide +kernel
theorem dX9_restore_24 : decode cX9_restore 24 = .ok (.getfield 45, 3) := by decide +kernel
theorem dX9_restore_27 : decode cX9_restore 27 = .ok (.iload_n 1, 1) := by decide +kernel
theorem dX9_restore_28 : decode cX9_restore 28 = .ok (.aaload, 1) := by decide +kernel
theorem dX9_restore_29 : decode cX9_restore 29 = .ok (.astore_n 2, 1) := by decide +kernel
theorem dX9_restore_30 : decode cX9_restore 30 = .ok (.aload_n 0, 1) := by decide +kernel
theorem dX9_restore_31 : decode cX9_restore 31 = .ok (.aload_n 2, 1) := by decide +kernel
theorem dX9_restore_32 : decode cX9_restore 32 = .ok (.getfield 363, 3) := by decide +kernel
theorem dX9_restore_35 : decode cX9_restore 35 = .ok (.putfield 64, 3) := by decide +kernel
theorem dX9_restore_38 : decode cX9_restore 38 = .ok (.aload_n 0, 1) := by decide +kernel
theorem dX9_restore_39 : decode cX9_restore 39 = .ok (.getfield 19, 3) := by decide +kernel
theorem dX9_restore_42 : decode cX9_restore 42 = .ok (.aload_n 2, 1) := by decide +kernel
theorem dX9_restore_43 : decode cX9_restore 43 = .ok (.getfield 364, 3) := by decide +kernel
theorem dX9_restore_46 : decode cX9_restore 46 = .ok (.invokevirtual 132, 3) := by decide +kernel
theorem dX9_restore_49 : decode cX9_restore 49 = .ok (.aload_n 0, 1) := by decide +kernel
theorem dX9_restore_50 : decode cX9_restore 50 = .ok (.getfield 23, 3) := by decide +kernel
theorem dX9_restore_53 : decode cX9_restore 53 = .ok (.aload_n 2, 1) := by decide +kernel
theorem dX9_restore_54 : decode cX9_restore 54 = .ok (.getfield 365, 3) := by decide +kernel
theorem dX9_restore_57 : decode cX9_restore 57 = .ok (.invokevirtual 132, 3) := by decide +kernel
theorem dX9_restore_60 : decode cX9_restore 60 = .ok (.aload_n 0, 1) := by decide +kernel
theorem dX9_restore_61 : decode cX9_restore 61 = .ok (.aload_n 2, 1) := by decide +kernel
theorem dX9_restore_62 : decode cX9_restore 62 = .ok (.getfield 366, 3) := by decide +kernel
theorem dX9_restore_65 : decode cX9_restore 65 = .ok (.putfield 80, 3) := by decide +kernel
theorem dX9_restore_68 : decode cX9_restore 68 = .ok (.aload_n 0, 1) := by decide +kernel
theorem dX9_restore_69 : decode cX9_restore 69 = .ok (.aload_n 2, 1) := by decide +kernel
theorem dX9_restore_70 : decode cX9_restore 70 = .ok (.getfield 367, 3) := by decide +kernel
theorem dX9_restore_73 : decode cX9_restore 73 = .ok (.putfield 68, 3) := by decide +kernel
theorem dX9_restore_76 : decode cX9_restore 76 = .ok (.aload_n 0, 1) := by decide +kernel
theorem dX9_restore_77 : decode cX9_restore 77 = .ok (.invokevirtual 119, 3) := by decide +kernel
theorem dX9_restore_80 : decode cX9_restore 80 = .ok (.iconst 1, 1) := by decide +kernel
theorem dX9_restore_81 : decode cX9_restore 81 = .ok (.ireturn, 1) := by decide +kernel
theorem dX10_throwsIf_0 : decode cX10_throwsIf 0 = .ok (.aload_n 0, 1) := by decide +kernel
theorem dX10_throwsIf_1 : decode cX10_throwsIf 1 = .ok (.iload_n 1, 1) := by decide +kernel
theorem dX10_throwsIf_2 : decode cX10_throwsIf 2 = .ok (.ifCond .eq 7, 3) := by decide +kernel
theorem dX10_throwsIf_5 : decode cX10_throwsIf 5 = .ok (.iconst 1, 1) := by decide +kernel
theorem dX10_throwsIf_6 : decode cX10_throwsIf 6 = .ok (.goto 4, 3) := by decide +kernel
theorem dX10_throwsIf_9 : decode cX10_throwsIf 9 = .ok (.iconst 0, 1) := by decide +kernel
theorem dX10_throwsIf_10 : decode cX10_throwsIf 10 = .ok (.putfield 1, 3) := by decide +kernel
theorem dX10_throwsIf_13 : decode cX10_throwsIf 13 = .ok (.iload_n 1, 1) := by decide +kernel
theorem dX10_throwsIf_14 : decode cX10_throwsIf 14 = .ok (.ireturn, 1) := by decide +kernel
theorem dX10_feed_0 : decode cX10_feed 0 = .ok (.aload_n 0, 1) := by decide +kernel
theorem dX10_feed_1 : decode cX10_feed 1 = .ok (.iconst 0, 1) := by decide +kernel
theorem dX10_feed_2 : decode cX10_feed 2 = .ok (.putfield 1, 3) := by decide +kernel
theorem dX10_feed_5 : decode cX10_feed 5 = .ok (.aload_n 0, 1) := by decide +kernel
theorem dX10_feed_6 : decode cX10_feed 6 = .ok (.getfield 7, 3) := by decide +kernel
theorem dX10_feed_9 : decode cX10_feed 9 = .ok (.bipush 20, 2) := by decide +kernel
theorem dX10_feed_11 : decode cX10_feed 11 = .ok (.iadd, 1) := by decide +kernel
theorem dX10_feed_12 : decode cX10_feed 12 = .ok (.sipush 940, 3) := by decide +kernel
theorem dX10_feed_15 : decode cX10_feed 15 = .ok (.if_icmp .le 5, 3) := by decide +kernel
theorem dX10_feed_18 : decode cX10_feed 18 = .ok (.iconst (-1), 1) := by decide +kernel
theorem dX10_feed_19 : decode cX10_feed 19 = .ok (.ireturn, 1) := by decide +kernel
theorem dX10_feed_20 : decode cX10_feed 20 = .ok (.aload_n 0, 1) := by decide +kernel
theorem dX10_feed_21 : decode cX10_feed 21 = .ok (.iload_n 1, 1) := by decide +kernel
theorem dX10_feed_22 : decode cX10_feed 22 = .ok (.invokevirtual 10, 3) := by decide +kernel
theorem dX10_feed_25 : decode cX10_feed 25 = .ok (.aload_n 0, 1) := by decide +kernel
theorem dX10_feed_26 : decode cX10_feed 26 = .ok (.iload_n 2, 1) := by decide +kernel
theorem dX10_feed_27 : decode cX10_feed 27 = .ok (.invokevirtual 10, 3) := by decide +kernel
theorem dX10_feed_30 : decode cX10_feed 30 = .ok (.aload_n 0, 1) := by decide +kernel
theorem dX10_feed_31 : decode cX10_feed 31 = .ok (.iload_n 3, 1) := by decide +kernel
theorem dX10_feed_32 : decode cX10_feed 32 = .ok (.invokevirtual 10, 3) := by decide +kernel
theorem dX10_feed_35 : decode cX10_feed 35 = .ok (.aload_n 0, 1) := by decide +kernel
theorem dX10_feed_36 : decode cX10_feed 36 = .ok (.iload 4, 2) := by decide +kernel
theorem dX10_feed_38 : decode cX10_feed 38 = .ok (.invokevirtual 10, 3) := by decide +kernel
theorem dX10_feed_41 : decode cX10_feed 41 = .ok (.aload_n 0, 1) := by decide +kernel
theorem dX10_feed_42 : decode cX10_feed 42 = .ok (.iload 5, 2) := by decide +kernel
theorem dX10_feed_44 : decode cX10_feed 44 = .ok (.invokevirtual 10, 3) := by decide +kernel
theorem dX10_feed_47 : decode cX10_feed 47 = .ok (.aload_n 0, 1) := by decide +kernel
theorem dX10_feed_48 : decode cX10_feed 48 = .ok (.getfield 7, 3) := by decide +kernel
theorem dX10_feed_51 : decode cX10_feed 51 = .ok (.ireturn, 1) := by decide +kernel
theorem dX10_bytes4_0 : decode cX10_bytes4 0 = .ok (.bipush 24, 2) := by decide +kernel
theorem dX10_bytes4_2 : decode cX10_bytes4 2 = .ok (.istore_n 2, 1) := by decide +kernel
theorem dX10_bytes4_3 : decode cX10_bytes4 3 = .ok (.iload_n 2, 1) := by decide +kernel
theorem dX10_bytes4_4 : decode cX10_bytes4 4 = .ok (.ifCond .lt 32, 3) := by decide +kernel
theorem dX10_bytes4_7 : decode cX10_bytes4 7 = .ok (.aload_n 0, 1) := by decide +kernel
theorem dX10_bytes4_8 : decode cX10_bytes4 8 = .ok (.getfield 14, 3) := by decide +kernel
theorem dX10_bytes4_11 : decode cX10_bytes4 11 = .ok (.aload_n 0, 1) := by decide +kernel
theorem dX10_bytes4_12 : decode cX10_bytes4 12 = .ok (.getfield 7, 3) := by decide +kernel
theorem dX10_bytes4_15 : decode cX10_bytes4 15 = .ok (.iload_n 1, 1) := by decide +kernel
theorem dX10_bytes4_16 : decode cX10_bytes4 16 = .ok (.iload_n 2, 1) := by decide +kernel
theorem dX10_bytes4_17 : decode cX10_bytes4 17 = .ok (.ishr, 1) := by decide +kernel
theorem dX10_bytes4_18 : decode cX10_bytes4 18 = .ok (.i2b, 1) := by decide +kernel
theorem dX10_bytes4_19 : decode cX10_bytes4 19 = .ok (.bastore, 1) := by decide +kernel
theorem dX10_bytes4_20 : decode cX10_bytes4 20 = .ok (.aload_n 0, 1) := by decide +kernel
theorem dX10_bytes4_21 : decode cX10_bytes4 21 = .ok (.dup, 1) := by decide +kernel
theorem dX10_bytes4_22 : decode cX10_bytes4 22 = .ok (.getfield 7, 3) := by decide +kernel
theorem dX10_bytes4_25 : decode cX10_bytes4 25 = .ok (.iconst 1, 1) := by decide +kernel
theorem dX10_bytes4_26 : decode cX10_bytes4 26 = .ok (.iadd, 1) := by decide +kernel
theorem dX10_bytes4_27 : decode cX10_bytes4 27 = .ok (.putfield 7, 3) := by decide +kernel
theorem dX10_bytes4_30 : decode cX10_bytes4 30 = .ok (.iinc 2 (-8), 3) := by decide +kernel
theorem dX10_bytes4_33 : decode cX10_bytes4 33 = .ok (.goto (-30), 3) := by decide +kernel
theorem dX10_bytes4_36 : decode cX10_bytes4 36 = .ok (.return_, 1) := by decide +kernel
theorem dX10_end_0 : decode cX10_end 0 = .ok (.aload_n 0, 1) := by decide +kernel
theorem dX10_end_1 : decode cX10_end 1 = .ok (.iconst 0, 1) := by decide +kernel
theorem dX10_end_2 : decode cX10_end 2 = .ok (.putfield 1, 3) := by decide +kernel
theorem dX10_end_5 : decode cX10_end 5 = .ok (.iload_n 1, 1) := by decide +kernel
theorem dX10_end_6 : decode cX10_end 6 = .ok (.ifCond .lt 11, 3) := by decide +kernel
theorem dX10_end_9 : decode cX10_end 9 = .ok (.iload_n 1, 1) := by decide +kernel
theorem dX10_end_10 : decode cX10_end 10 = .ok (.aload_n 0, 1) := by decide +kernel
theorem dX10_end_11 : decode cX10_end 11 = .ok (.getfield 7, 3) := by decide +kernel
theorem dX10_end_14 : decode cX10_end 14 = .ok (.if_icmp .le 5, 3) := by decide +kernel
theorem dX10_end_17 : decode cX10_end 17 = .ok (.iconst 0, 1) := by decide +kernel
theorem dX10_end_18 : decode cX10_end 18 = .ok (.ireturn, 1) := by decide +kernel
theorem dX10_end_19 : decode cX10_end 19 = .ok (.aload_n 0, 1) := by decide +kernel
theorem dX10_end_20 : decode cX10_end 20 = .ok (.iload_n 1, 1) := by decide +kernel
theorem dX10_end_21 : decode cX10_end 21 = .ok (.putfield 7, 3) := by decide +kernel
theorem dX10_end_24 : decode cX10_end 24 = .ok (.iconst 1, 1) := by decide +kernel
theorem dX10_end_25 : decode cX10_end 25 = .ok (.ireturn, 1) := by decide +kernel
theorem dX10_taken_0 : decode cX10_taken 0 = .ok (.aload_n 0, 1) := by decide +kernel
theorem dX10_taken_1 : decode cX10_taken 1 = .ok (.aload_n 0, 1) := by decide +kernel
theorem dX10_taken_2 : decode cX10_taken 2 = .ok (.getfield 7, 3) := by decide +kernel
theorem dX10_taken_5 : decode cX10_taken 5 = .ok (.putfield 18, 3) := by decide +kernel
theorem dX10_taken_8 : decode cX10_taken 8 = .ok (.aload_n 0, 1) := by decide +kernel
theorem dX10_taken_9 : decode cX10_taken 9 = .ok (.iconst 0, 1) := by decide +kernel
theorem dX10_taken_10 : decode cX10_taken 10 = .ok (.putfield 7, 3) := by decide +kernel
theorem dX10_taken_13 : decode cX10_taken 13 = .ok (.aload_n 0, 1) := by decide +kernel
theorem dX10_taken_14 : decode cX10_taken 14 = .ok (.iconst 0, 1) := by decide +kernel
theorem dX10_taken_15 : decode cX10_taken 15 = .ok (.putfield 21, 3) := by decide +kernel
theorem dX10_taken_18 : decode cX10_taken 18 = .ok (.aload_n 0, 1) := by decide +kernel
theorem dX10_taken_19 : decode cX10_taken 19 = .ok (.iload_n 1, 1) := by decide +kernel
theorem dX10_taken_20 : decode cX10_taken 20 = .ok (.putfield 24, 3) := by decide +kernel
theorem dX10_taken_23 : decode cX10_taken 23 = .ok (.return_, 1) := by decide +kernel
theorem dX10_isIn_0 : decode cX10_isIn 0 = .ok (.iload_n 0, 1) := by decide +kernel
theorem dX10_isIn_1 : decode cX10_isIn 1 = .ok (.iload_n 1, 1) := by decide +kernel
theorem dX10_isIn_2 : decode cX10_isIn 2 = .ok (.if_icmp .lt 12, 3) := by decide +kernel
theorem dX10_isIn_5 : decode cX10_isIn 5 = .ok (.iload_n 0, 1) := by decide +kernel
theorem dX10_isIn_6 : decode cX10_isIn 6 = .ok (.iload_n 2, 1) := by decide +kernel
theorem dX10_isIn_7 : decode cX10_isIn 7 = .ok (.if_icmp .gt 7, 3) := by decide +kernel
theorem dX10_isIn_10 : decode cX10_isIn 10 = .ok (.iconst 1, 1) := by decide +kernel
theorem dX10_isIn_11 : decode cX10_isIn 11 = .ok (.goto 4, 3) := by decide +kernel
theorem dX10_isIn_14 : decode cX10_isIn 14 = .ok (.iconst 0, 1) := by decide +kernel
theorem dX10_isIn_15 : decode cX10_isIn 15 = .ok (.ireturn, 1) := by decide +kernel
theorem dX10_init_0 : decode cX10_init 0 = .ok (.aload_n 0, 1) := by decide +kernel
theorem dX10_init_1 : decode cX10_init 1 = .ok (.invokespecial 31, 3) := by decide +kernel
theorem dX10_init_4 : decode cX10_init 4 = .ok (.aload_n 0, 1) := by decide +kernel
theorem dX10_init_5 : decode cX10_init 5 = .ok (.sipush 940, 3) := by decide +kernel
theorem dX10_init_8 : decode cX10_init 8 = .ok (.newarray .byte, 2) := by decide +kernel
theorem dX10_init_10 : decode cX10_init 10 = .ok (.putfield 14, 3) := by decide +kernel
theorem dX10_init_13 : decode cX10_init 13 = .ok (.aload_n 0, 1) := by decide +kernel
theorem dX10_init_14 : decode cX10_init 14 = .ok (.sipush 335, 3) := by decide +kernel
theorem dX10_init_17 : decode cX10_init 17 = .ok (.newarray .int, 2) := by decide +kernel
theorem dX10_init_19 : decode cX10_init 19 = .ok (.putfield 37, 3) := by decide +kernel
theorem dX10_init_22 : decode cX10_init 22 = .ok (.aload_n 0, 1) := by decide +kernel
theorem dX10_init_23 : decode cX10_init 23 = .ok (.bipush 104, 2) := by decide +kernel
theorem dX10_init_25 : decode cX10_init 25 = .ok (.newarray .int, 2) := by decide +kernel
theorem dX10_init_27 : decode cX10_init 27 = .ok (.putfield 41, 3) := by decide +kernel
theorem dX10_init_30 : decode cX10_init 30 = .ok (.aload_n 0, 1) := by decide +kernel
theorem dX10_init_31 : decode cX10_init 31 = .ok (.sipush 135, 3) := by decide +kernel
theorem dX10_init_34 : decode cX10_init 34 = .ok (.newarray .int, 2) := by decide +kernel
theorem dX10_init_36 : decode cX10_init 36 = .ok (.putfield 44, 3) := by decide +kernel
theorem dX10_init_39 : decode cX10_init 39 = .ok (.aload_n 0, 1) := by decide +kernel
theorem dX10_init_40 : decode cX10_init 40 = .ok (.bipush 36, 2) := by decide +kernel
theorem dX10_init_42 : decode cX10_init 42 = .ok (.newarray .long, 2) := by decide +kernel
theorem dX10_init_44 : decode cX10_init 44 = .ok (.putfield 47, 3) := by decide +kernel
theorem dX10_init_47 : decode cX10_init 47 = .ok (.aload_n 0, 1) := by decide +kernel
theorem dX10_init_48 : decode cX10_init 48 = .ok (.bipush 23, 2) := by decide +kernel
theorem dX10_init_50 : decode cX10_init 50 = .ok (.newarray .long, 2) := by decide +kernel
theorem dX10_init_52 : decode cX10_init 52 = .ok (.putfield 51, 3) := by decide +kernel
theorem dX10_init_55 : decode cX10_init 55 = .ok (.aload_n 0, 1) := by decide +kernel
theorem dX10_init_56 : decode cX10_init 56 = .ok (.bipush 24, 2) := by decide +kernel
theorem dX10_init_58 : decode cX10_init 58 = .ok (.newarray .int, 2) := by decide +kernel
theorem dX10_init_60 : decode cX10_init 60 = .ok (.putfield 54, 3) := by decide +kernel
theorem dX10_init_63 : decode cX10_init 63 = .ok (.aload_n 0, 1) := by decide +kernel
theorem dX10_init_64 : decode cX10_init 64 = .ok (.bipush 40, 2) := by decide +kernel
theorem dX10_init_66 : decode cX10_init 66 = .ok (.newarray .int, 2) := by decide +kernel
theorem dX10_init_68 : decode cX10_init 68 = .ok (.putfield 57, 3) := by decide +kernel
theorem dX10_init_71 : decode cX10_init 71 = .ok (.aload_n 0, 1) := by decide +kernel
theorem dX10_init_72 : decode cX10_init 72 = .ok (.iconst 4, 1) := by decide +kernel
theorem dX10_init_73 : decode cX10_init 73 = .ok (.newarray .int, 2) := by decide +kernel
theorem dX10_init_75 : decode cX10_init 75 = .ok (.putfield 60, 3) := by decide +kernel
theorem dX10_init_78 : decode cX10_init 78 = .ok (.aload_n 0, 1) := by decide +kernel
theorem dX10_init_79 : decode cX10_init 79 = .ok (.bipush 12, 2) := by decide +kernel
theorem dX10_init_81 : decode cX10_init 81 = .ok (.newarray .int, 2) := by decide +kernel
theorem dX10_init_83 : decode cX10_init 83 = .ok (.putfield 63, 3) := by decide +kernel
theorem dX10_init_86 : decode cX10_init 86 = .ok (.aload_n 0, 1) := by decide +kernel
theorem dX10_init_87 : decode cX10_init 87 = .ok (.iconst (-1), 1) := by decide +kernel
theorem dX10_init_88 : decode cX10_init 88 = .ok (.putfield 66, 3) := by decide +kernel
theorem dX10_init_91 : decode cX10_init 91 = .ok (.aload_n 0, 1) := by decide +kernel
theorem dX10_init_92 : decode cX10_init 92 = .ok (.sipush 192, 3) := by decide +kernel
theorem dX10_init_95 : decode cX10_init 95 = .ok (.newarray .int, 2) := by decide +kernel
theorem dX10_init_97 : decode cX10_init 97 = .ok (.putfield 69, 3) := by decide +kernel
theorem dX10_init_100 : decode cX10_init 100 = .ok (.aload_n 0, 1) := by decide +kernel
theorem dX10_init_101 : decode cX10_init 101 = .ok (.bipush 24, 2) := by decide +kernel
theorem dX10_init_103 : decode cX10_init 103 = .ok (.newarray .int, 2) := by decide +kernel
theorem dX10_init_105 : decode cX10_init 105 = .ok (.putfield 72, 3) := by decide +kernel
theorem dX10_init_108 : decode cX10_init 108 = .ok (.aload_n 0, 1) := by decide +kernel
theorem dX10_init_109 : decode cX10_init 109 = .ok (.ldc 75, 2) := by decide +kernel
theorem dX10_init_111 : decode cX10_init 111 = .ok (.newarray .int, 2) := by decide +kernel
theorem dX10_init_113 : decode cX10_init 113 = .ok (.putfield 76, 3) := by decide +kernel
theorem dX10_init_116 : decode cX10_init 116 = .ok (.aload_n 0, 1) := by decide +kernel
theorem dX10_init_117 : decode cX10_init 117 = .ok (.iconst 4, 1) := by decide +kernel
theorem dX10_init_118 : decode cX10_init 118 = .ok (.newarray .int, 2) := by decide +kernel
theorem dX10_init_120 : decode cX10_init 120 = .ok (.putfield 79, 3) := by decide +kernel
theorem dX10_init_123 : decode cX10_init 123 = .ok (.aload_n 0, 1) := by decide +kernel
theorem dX10_init_124 : decode cX10_init 124 = .ok (.iconst 4, 1) := by decide +kernel
theorem dX10_init_125 : decode cX10_init 125 = .ok (.newarray .int, 2) := by decide +kernel
theorem dX10_init_127 : decode cX10_init 127 = .ok (.putfield 82, 3) := by decide +kernel
theorem dX10_init_130 : decode cX10_init 130 = .ok (.aload_n 0, 1) := by decide +kernel
theorem dX10_init_131 : decode cX10_init 131 = .ok (.iconst (-1), 1) := by decide +kernel
theorem dX10_init_132 : decode cX10_init 132 = .ok (.putfield 85, 3) := by decide +kernel
theorem dX10_init_135 : decode cX10_init 135 = .ok (.aload_n 0, 1) := by decide +kernel
theorem dX10_init_136 : decode cX10_init 136 = .ok (.ldc 88, 2) := by decide +kernel
theorem dX10_init_138 : decode cX10_init 138 = .ok (.newarray .int, 2) := by decide +kernel
theorem dX10_init_140 : decode cX10_init 140 = .ok (.putfield 89, 3) := by decide +kernel
theorem dX10_init_143 : decode cX10_init 143 = .ok (.aload_n 0, 1) := by decide +kernel
theorem dX10_init_144 : decode cX10_init 144 = .ok (.ldc 88, 2) := by decide +kernel
theorem dX10_init_146 : decode cX10_init 146 = .ok (.newarray .int, 2) := by decide +kernel
theorem dX10_init_148 : decode cX10_init 148 = .ok (.putfield 92, 3) := by decide +kernel
theorem dX10_init_151 : decode cX10_init 151 = .ok (.aload_n 0, 1) := by decide +kernel
theorem dX10_init_152 : decode cX10_init 152 = .ok (.sipush 31330, 3) := by decide +kernel
theorem dX10_init_155 : decode cX10_init 155 = .ok (.newarray .int, 2) := by decide +kernel
theorem dX10_init_157 : decode cX10_init 157 = .ok (.putfield 95, 3) := by decide +kernel
theorem dX10_init_160 : decode cX10_init 160 = .ok (.aload_n 0, 1) := by decide +kernel
theorem dX10_init_161 : decode cX10_init 161 = .ok (.bipush 12, 2) := by decide +kernel
theorem dX10_init_163 : decode cX10_init 163 = .ok (.newarray .int, 2) := by decide +kernel
theorem dX10_init_165 : decode cX10_init 165 = .ok (.putfield 98, 3) := by decide +kernel
theorem dX10_init_168 : decode cX10_init 168 = .ok (.aload_n 0, 1) := by decide +kernel
theorem dX10_init_169 : decode cX10_init 169 = .ok (.iconst (-1), 1) := by decide +kernel
theorem dX10_init_170 : decode cX10_init 170 = .ok (.putfield 101, 3) := by decide +kernel
theorem dX10_init_173 : decode cX10_init 173 = .ok (.aload_n 0, 1) := by decide +kernel
theorem dX10_init_174 : decode cX10_init 174 = .ok (.bipush 45, 2) := by decide +kernel
theorem dX10_init_176 : decode cX10_init 176 = .ok (.newarray .int, 2) := by decide +kernel
theorem dX10_init_178 : decode cX10_init 178 = .ok (.putfield 104, 3) := by decide +kernel
theorem dX10_init_181 : decode cX10_init 181 = .ok (.aload_n 0, 1) := by decide +kernel
theorem dX10_init_182 : decode cX10_init 182 = .ok (.bipush 45, 2) := by decide +kernel
theorem dX10_init_184 : decode cX10_init 184 = .ok (.newarray .boolean, 2) := by decide +kernel
theorem dX10_init_186 : decode cX10_init 186 = .ok (.putfield 107, 3) := by decide +kernel
theorem dX10_init_189 : decode cX10_init 189 = .ok (.aload_n 0, 1) := by decide +kernel
theorem dX10_init_190 : decode cX10_init 190 = .ok (.sipush 670, 3) := by decide +kernel
theorem dX10_init_193 : decode cX10_init 193 = .ok (.newarray .int, 2) := by decide +kernel
theorem dX10_init_195 : decode cX10_init 195 = .ok (.putfield 111, 3) := by decide +kernel
theorem dX10_init_198 : decode cX10_init 198 = .ok (.aload_n 0, 1) := by decide +kernel
theorem dX10_init_199 : decode cX10_init 199 = .ok (.bipush 36, 2) := by decide +kernel
theorem dX10_init_201 : decode cX10_init 201 = .ok (.newarray .long, 2) := by decide +kernel
theorem dX10_init_203 : decode cX10_init 203 = .ok (.putfield 114, 3) := by decide +kernel
theorem dX10_init_206 : decode cX10_init 206 = .ok (.aload_n 0, 1) := by decide +kernel
theorem dX10_init_207 : decode cX10_init 207 = .ok (.iconst 2, 1) := by decide +kernel
theorem dX10_init_208 : decode cX10_init 208 = .ok (.newarray .boolean, 2) := by decide +kernel
theorem dX10_init_210 : decode cX10_init 210 = .ok (.putfield 117, 3) := by decide +kernel
theorem dX10_init_213 : decode cX10_init 213 = .ok (.aload_n 0, 1) := by decide +kernel
theorem dX10_init_214 : decode cX10_init 214 = .ok (.getfield 51, 3) := by decide +kernel
theorem dX10_init_217 : decode cX10_init 217 = .ok (.iconst 0, 1) := by decide +kernel
theorem dX10_init_218 : decode cX10_init 218 = .ok (.ldc2_w 120, 3) := by decide +kernel
theorem dX10_init_221 : decode cX10_init 221 = .ok (.lastore, 1) := by decide +kernel
theorem dX10_init_222 : decode cX10_init 222 = .ok (.aload_n 0, 1) := by decide +kernel
theorem dX10_init_223 : decode cX10_init 223 = .ok (.getfield 51, 3) := by decide +kernel
theorem dX10_init_226 : decode cX10_init 226 = .ok (.iconst 1, 1) := by decide +kernel
theorem dX10_init_227 : decode cX10_init 227 = .ok (.ldc2_w 122, 3) := by decide +kernel
theorem dX10_init_230 : decode cX10_init 230 = .ok (.lastore, 1) := by decide +kernel
theorem dX10_init_231 : decode cX10_init 231 = .ok (.aload_n 0, 1) := by decide +kernel
theorem dX10_init_232 : decode cX10_init 232 = .ok (.getfield 51, 3) := by decide +kernel
theorem dX10_init_235 : decode cX10_init 235 = .ok (.iconst 2, 1) := by decide +kernel
theorem dX10_init_236 : decode cX10_init 236 = .ok (.ldc2_w 124, 3) := by decide +kernel
theorem dX10_init_239 : decode cX10_init 239 = .ok (.lastore, 1) := by decide +kernel
theorem dX10_init_240 : decode cX10_init 240 = .ok (.aload_n 0, 1) := by decide +kernel
theorem dX10_init_241 : decode cX10_init 241 = .ok (.getfield 51, 3) := by decide +kernel
theorem dX10_init_244 : decode cX10_init 244 = .ok (.iconst 3, 1) := by decide +kernel
theorem dX10_init_245 : decode cX10_init 245 = .ok (.ldc2_w 126, 3) := by decide +kernel
theorem dX10_init_248 : decode cX10_init 248 = .ok (.lastore, 1) := by decide +kernel
theorem dX10_init_249 : decode cX10_init 249 = .ok (.aload_n 0, 1) := by decide +kernel
theorem dX10_init_250 : decode cX10_init 250 = .ok (.getfield 51, 3) := by decide +kernel
theorem dX10_init_253 : decode cX10_init 253 = .ok (.iconst 4, 1) := by decide +kernel
theorem dX10_init_254 : decode cX10_init 254 = .ok (.ldc2_w 128, 3) := by decide +kernel
theorem dX10_init_257 : decode cX10_init 257 = .ok (.lastore, 1) := by decide +kernel
theorem dX10_init_258 : decode cX10_init 258 = .ok (.aload_n 0, 1) := by decide +kernel
theorem dX10_init_259 : decode cX10_init 259 = .ok (.getfield 51, 3) := by decide +kernel
theorem dX10_init_262 : decode cX10_init 262 = .ok (.iconst 5, 1) := by decide +kernel
theorem dX10_init_263 : decode cX10_init 263 = .ok (.ldc2_w 130, 3) := by decide +kernel
theorem dX10_init_266 : decode cX10_init 266 = .ok (.lastore, 1) := by decide +kernel
theorem dX10_init_267 : decode cX10_init 267 = .ok (.aload_n 0, 1) := by decide +kernel
theorem dX10_init_268 : decode cX10_init 268 = .ok (.getfield 51, 3) := by decide +kernel
theorem dX10_init_271 : decode cX10_init 271 = .ok (.bipush 6, 2) := by decide +kernel
theorem dX10_init_273 : decode cX10_init 273 = .ok (.ldc2_w 132, 3) := by decide +kernel
theorem dX10_init_276 : decode cX10_init 276 = .ok (.lastore, 1) := by decide +kernel
theorem dX10_init_277 : decode cX10_init 277 = .ok (.aload_n 0, 1) := by decide +kernel
theorem dX10_init_278 : decode cX10_init 278 = .ok (.getfield 51, 3) := by decide +kernel
theorem dX10_init_281 : decode cX10_init 281 = .ok (.bipush 7, 2) := by decide +kernel
theorem dX10_init_283 : decode cX10_init 283 = .ok (.ldc2_w 134, 3) := by decide +kernel
theorem dX10_init_286 : decode cX10_init 286 = .ok (.lastore, 1) := by decide +kernel
theorem dX10_init_287 : decode cX10_init 287 = .ok (.aload_n 0, 1) := by decide +kernel
theorem dX10_init_288 : decode cX10_init 288 = .ok (.getfield 51, 3) := by decide +kernel
theorem dX10_init_291 : decode cX10_init 291 = .ok (.bipush 8, 2) := by decide +kernel
theorem dX10_init_293 : decode cX10_init 293 = .ok (.ldc2_w 136, 3) := by decide +kernel
theorem dX10_init_296 : decode cX10_init 296 = .ok (.lastore, 1) := by decide +kernel
theorem dX10_init_297 : decode cX10_init 297 = .ok (.aload_n 0, 1) := by decide +kernel
theorem dX10_init_298 : decode cX10_init 298 = .ok (.getfield 51, 3) := by decide +kernel
theorem dX10_init_301 : decode cX10_init 301 = .ok (.bipush 9, 2) := by decide +kernel
theorem dX10_init_303 : decode cX10_init 303 = .ok (.ldc2_w 138, 3) := by decide +kernel
theorem dX10_init_306 : decode cX10_init 306 = .ok (.lastore, 1) := by decide +kernel
theorem dX10_init_307 : decode cX10_init 307 = .ok (.aload_n 0, 1) := by decide +kernel
theorem dX10_init_308 : decode cX10_init 308 = .ok (.getfield 51, 3) := by decide +kernel
theorem dX10_init_311 : decode cX10_init 311 = .ok (.bipush 10, 2) := by decide +kernel
theorem dX10_init_313 : decode cX10_init 313 = .ok (.ldc2_w 140, 3) := by decide +kernel
theorem dX10_init_316 : decode cX10_init 316 = .ok (.lastore, 1) := by decide +kernel
theorem dX10_init_317 : decode cX10_init 317 = .ok (.aload_n 0, 1) := by decide +kernel
theorem dX10_init_318 : decode cX10_init 318 = .ok (.getfield 51, 3) := by decide +kernel
theorem dX10_init_321 : decode cX10_init 321 = .ok (.bipush 11, 2) := by decide +kernel
theorem dX10_init_323 : decode cX10_init 323 = .ok (.ldc2_w 142, 3) := by decide +kernel
theorem dX10_init_326 : decode cX10_init 326 = .ok (.lastore, 1) := by decide +kernel
theorem dX10_init_327 : decode cX10_init 327 = .ok (.aload_n 0, 1) := by decide +kernel
theorem dX10_init_328 : decode cX10_init 328 = .ok (.getfield 51, 3) := by decide +kernel
theorem dX10_init_331 : decode cX10_init 331 = .ok (.bipush 12, 2) := by decide +kernel
theorem dX10_init_333 : decode cX10_init 333 = .ok (.ldc2_w 144, 3) := by decide +kernel
theorem dX10_init_336 : decode cX10_init 336 = .ok (.lastore, 1) := by decide +kernel
theorem dX10_init_337 : decode cX10_init 337 = .ok (.aload_n 0, 1) := by decide +kernel
theorem dX10_init_338 : decode cX10_init 338 = .ok (.getfield 51, 3) := by decide +kernel
theorem dX10_init_341 : decode cX10_init 341 = .ok (.bipush 13, 2) := by decide +kernel
theorem dX10_init_343 : decode cX10_init 343 = .ok (.ldc2_w 146, 3) := by decide +kernel
theorem dX10_init_346 : decode cX10_init 346 = .ok (.lastore, 1) := by decide +kernel
theorem dX10_init_347 : decode cX10_init 347 = .ok (.aload_n 0, 1) := by decide +kernel
theorem dX10_init_348 : decode cX10_init 348 = .ok (.getfield 51, 3) := by decide +kernel
theorem dX10_init_351 : decode cX10_init 351 = .ok (.bipush 14, 2) := by decide +kernel
theorem dX10_init_353 : decode cX10_init 353 = .ok (.ldc2_w 148, 3) := by decide +kernel
theorem dX10_init_356 : decode cX10_init 356 = .ok (.lastore, 1) := by decide +kernel
theorem dX10_init_357 : decode cX10_init 357 = .ok (.aload_n 0, 1) := by decide +kernel
theorem dX10_init_358 : decode cX10_init 358 = .ok (.getfield 51, 3) := by decide +kernel
theorem dX10_init_361 : decode cX10_init 361 = .ok (.bipush 15, 2) := by decide +kernel
theorem dX10_init_363 : decode cX10_init 363 = .ok (.ldc2_w 150, 3) := by decide +kernel
theorem dX10_init_366 : decode cX10_init 366 = .ok (.lastore, 1) := by decide +kernel
theorem dX10_init_367 : decode cX10_init 367 = .ok (.aload_n 0, 1) := by decide +kernel
theorem dX10_init_368 : decode cX10_init 368 = .ok (.getfield 51, 3) := by decide +kernel
theorem dX10_init_371 : decode cX10_init 371 = .ok (.bipush 16, 2) := by decide +kernel
theorem dX10_init_373 : decode cX10_init 373 = .ok (.ldc2_w 152, 3) := by decide +kernel
theorem dX10_init_376 : decode cX10_init 376 = .ok (.lastore, 1) := by decide +kernel
theorem dX10_init_377 : decode cX10_init 377 = .ok (.aload_n 0, 1) := by decide +kernel
theorem dX10_init_378 : decode cX10_init 378 = .ok (.getfield 51, 3) := by decide +kernel
theorem dX10_init_381 : decode cX10_init 381 = .ok (.bipush 17, 2) := by decide +kernel
theorem dX10_init_383 : decode cX10_init 383 = .ok (.ldc2_w 154, 3) := by decide +kernel
theorem dX10_init_386 : decode cX10_init 386 = .ok (.lastore, 1) := by decide +kernel
theorem dX10_init_387 : decode cX10_init 387 = .ok (.aload_n 0, 1) := by decide +kernel
theorem dX10_init_388 : decode cX10_init 388 = .ok (.getfield 51, 3) := by decide +kernel
theorem dX10_init_391 : decode cX10_init 391 = .ok (.bipush 18, 2) := by decide +kernel
theorem dX10_init_393 : decode cX10_init 393 = .ok (.ldc2_w 156, 3) := by decide +kernel
theorem dX10_init_396 : decode cX10_init 396 = .ok (.lastore, 1) := by decide +kernel
theorem dX10_init_397 : decode cX10_init 397 = .ok (.aload_n 0, 1) := by decide +kernel
theorem dX10_init_398 : decode cX10_init 398 = .ok (.getfield 51, 3) := by decide +kernel
theorem dX10_init_401 : decode cX10_init 401 = .ok (.bipush 19, 2) := by decide +kernel
theorem dX10_init_403 : decode cX10_init 403 = .ok (.ldc2_w 158, 3) := by decide +kernel
theorem dX10_init_406 : decode cX10_init 406 = .ok (.lastore, 1) := by decide +kernel
theorem dX10_init_407 : decode cX10_init 407 = .ok (.aload_n 0, 1) := by decide +kernel
theorem dX10_init_408 : decode cX10_init 408 = .ok (.getfield 51, 3) := by decide +kernel
theorem dX10_init_411 : decode cX10_init 411 = .ok (.bipush 20, 2) := by decide +kernel
theorem dX10_init_413 : decode cX10_init 413 = .ok (.ldc2_w 160, 3) := by decide +kernel
theorem dX10_init_416 : decode cX10_init 416 = .ok (.lastore, 1) := by decide +kernel
theorem dX10_init_417 : decode cX10_init 417 = .ok (.aload_n 0, 1) := by decide +kernel
theorem dX10_init_418 : decode cX10_init 418 = .ok (.getfield 51, 3) := by decide +kernel
theorem dX10_init_421 : decode cX10_init 421 = .ok (.bipush 21, 2) := by decide +kernel
theorem dX10_init_423 : decode cX10_init 423 = .ok (.ldc2_w 162, 3) := by decide +kernel
theorem dX10_init_426 : decode cX10_init 426 = .ok (.lastore, 1) := by decide +kernel
theorem dX10_init_427 : decode cX10_init 427 = .ok (.aload_n 0, 1) := by decide +kernel
theorem dX10_init_428 : decode cX10_init 428 = .ok (.getfield 51, 3) := by decide +kernel
theorem dX10_init_431 : decode cX10_init 431 = .ok (.bipush 22, 2) := by decide +kernel
theorem dX10_init_433 : decode cX10_init 433 = .ok (.ldc2_w 164, 3) := by decide +kernel
theorem dX10_init_436 : decode cX10_init 436 = .ok (.lastore, 1) := by decide +kernel
theorem dX10_init_437 : decode cX10_init 437 = .ok (.aload_n 0, 1) := by decide +kernel
theorem dX10_init_438 : decode cX10_init 438 = .ok (.invokevirtual 166, 3) := by decide +kernel
theorem dX10_init_441 : decode cX10_init 441 = .ok (.iconst 0, 1) := by decide +kernel
theorem dX10_init_442 : decode cX10_init 442 = .ok (.istore_n 1, 1) := by decide +kernel
theorem dX10_init_443 : decode cX10_init 443 = .ok (.iload_n 1, 1) := by decide +kernel
theorem dX10_init_444 : decode cX10_init 444 = .ok (.bipush 104, 2) := by decide +kernel
theorem dX10_init_446 : decode cX10_init 446 = .ok (.if_icmp .ge 21, 3) := by decide +kernel
theorem dX10_init_449 : decode cX10_init 449 = .ok (.aload_n 0, 1) := by decide +kernel
theorem dX10_init_450 : decode cX10_init 450 = .ok (.getfield 37, 3) := by decide +kernel
theorem dX10_init_453 : decode cX10_init 453 = .ok (.iload_n 1, 1) := by decide +kernel
theorem dX10_init_454 : decode cX10_init 454 = .ok (.aload_n 0, 1) := by decide +kernel
theorem dX10_init_455 : decode cX10_init 455 = .ok (.getfield 41, 3) := by decide +kernel
theorem dX10_init_458 : decode cX10_init 458 = .ok (.iload_n 1, 1) := by decide +kernel
theorem dX10_init_459 : decode cX10_init 459 = .ok (.iaload, 1) := by decide +kernel
theorem dX10_init_460 : decode cX10_init 460 = .ok (.iastore, 1) := by decide +kernel
theorem dX10_init_461 : decode cX10_init 461 = .ok (.iinc 1 1, 3) := by decide +kernel
theorem dX10_init_464 : decode cX10_init 464 = .ok (.goto (-21), 3) := by decide +kernel
theorem dX10_init_467 : decode cX10_init 467 = .ok (.aload_n 0, 1) := by decide +kernel
theorem dX10_init_468 : decode cX10_init 468 = .ok (.getfield 37, 3) := by decide +kernel
theorem dX10_init_471 : decode cX10_init 471 = .ok (.bipush 115, 2) := by decide +kernel
theorem dX10_init_473 : decode cX10_init 473 = .ok (.iconst 1, 1) := by decide +kernel
theorem dX10_init_474 : decode cX10_init 474 = .ok (.iastore, 1) := by decide +kernel
theorem dX10_init_475 : decode cX10_init 475 = .ok (.return_, 1) := by decide +kernel
theorem dX10_clears_0 : decode cX10_clears 0 = .ok (.iconst 0, 1) := by decide +kernel
theorem dX10_clears_1 : decode cX10_clears 1 = .ok (.istore_n 1, 1) := by decide +kernel
theorem dX10_clears_2 : decode cX10_clears 2 = .ok (.iload_n 1, 1) := by decide +kernel
theorem dX10_clears_3 : decode cX10_clears 3 = .ok (.bipush 104, 2) := by decide +kernel
theorem dX10_clears_5 : decode cX10_clears 5 = .ok (.if_icmp .ge 16, 3) := by decide +kernel
theorem dX10_clears_8 : decode cX10_clears 8 = .ok (.aload_n 0, 1) := by decide +kernel
theorem dX10_clears_9 : decode cX10_clears 9 = .ok (.getfield 41, 3) := by decide +kernel
theorem dX10_clears_12 : decode cX10_clears 12 = .ok (.iload_n 1, 1) := by decide +kernel
theorem dX10_clears_13 : decode cX10_clears 13 = .ok (.iconst 0, 1) := by decide +kernel
theorem dX10_clears_14 : decode cX10_clears 14 = .ok (.iastore, 1) := by decide +kernel
theorem dX10_clears_15 : decode cX10_clears 15 = .ok (.iinc 1 1, 3) := by decide +kernel
theorem dX10_clears_18 : decode cX10_clears 18 = .ok (.goto (-16), 3) := by decide +kernel
theorem dX10_clears_21 : decode cX10_clears 21 = .ok (.aload_n 0, 1) := by decide +kernel
theorem dX10_clears_22 : decode cX10_clears 22 = .ok (.getfield 41, 3) := by decide +kernel
theorem dX10_clears_25 : decode cX10_clears 25 = .ok (.iconst 0, 1) := by decide +kernel
theorem dX10_clears_26 : decode cX10_clears 26 = .ok (.bipush 40, 2) := by decide +kernel
theorem dX10_clears_28 : decode cX10_clears 28 = .ok (.iastore, 1) := by decide +kernel
theorem dX10_clears_29 : decode cX10_clears 29 = .ok (.aload_n 0, 1) := by decide +kernel
theorem dX10_clears_30 : decode cX10_clears 30 = .ok (.getfield 41, 3) := by decide +kernel
theorem dX10_clears_33 : decode cX10_clears 33 = .ok (.iconst 1, 1) := by decide +kernel
theorem dX10_clears_34 : decode cX10_clears 34 = .ok (.sipush 210, 3) := by decide +kernel
theorem dX10_clears_37 : decode cX10_clears 37 = .ok (.iastore, 1) := by decide +kernel
theorem dX10_clears_38 : decode cX10_clears 38 = .ok (.aload_n 0, 1) := by decide +kernel
theorem dX10_clears_39 : decode cX10_clears 39 = .ok (.getfield 41, 3) := by decide +kernel
theorem dX10_clears_42 : decode cX10_clears 42 = .ok (.iconst 2, 1) := by decide +kernel
theorem dX10_clears_43 : decode cX10_clears 43 = .ok (.sipush 630, 3) := by decide +kernel
theorem dX10_clears_46 : decode cX10_clears 46 = .ok (.iastore, 1) := by decide +kernel
theorem dX10_clears_47 : decode cX10_clears 47 = .ok (.aload_n 0, 1) := by decide +kernel
theorem dX10_clears_48 : decode cX10_clears 48 = .ok (.getfield 41, 3) := by decide +kernel
theorem dX10_clears_51 : decode cX10_clears 51 = .ok (.iconst 3, 1) := by decide +kernel
theorem dX10_clears_52 : decode cX10_clears 52 = .ok (.iconst 2, 1) := by decide +kernel
theorem dX10_clears_53 : decode cX10_clears 53 = .ok (.iastore, 1) := by decide +kernel
theorem dX10_clears_54 : decode cX10_clears 54 = .ok (.aload_n 0, 1) := by decide +kernel
theorem dX10_clears_55 : decode cX10_clears 55 = .ok (.getfield 41, 3) := by decide +kernel
theorem dX10_clears_58 : decode cX10_clears 58 = .ok (.iconst 4, 1) := by decide +kernel
theorem dX10_clears_59 : decode cX10_clears 59 = .ok (.iconst 5, 1) := by decide +kernel
theorem dX10_clears_60 : decode cX10_clears 60 = .ok (.iastore, 1) := by decide +kernel
theorem dX10_clears_61 : decode cX10_clears 61 = .ok (.return_, 1) := by decide +kernel
theorem dX10_peek_0 : decode cX10_peek 0 = .ok (.aload_n 0, 1) := by decide +kernel
theorem dX10_peek_1 : decode cX10_peek 1 = .ok (.getfield 21, 3) := by decide +kernel
theorem dX10_peek_4 : decode cX10_peek 4 = .ok (.aload_n 0, 1) := by decide +kernel
theorem dX10_peek_5 : decode cX10_peek 5 = .ok (.getfield 18, 3) := by decide +kernel
theorem dX10_peek_8 : decode cX10_peek 8 = .ok (.if_icmp .ge 19, 3) := by decide +kernel
theorem dX10_peek_11 : decode cX10_peek 11 = .ok (.aload_n 0, 1) := by decide +kernel
theorem dX10_peek_12 : decode cX10_peek 12 = .ok (.getfield 14, 3) := by decide +kernel
theorem dX10_peek_15 : decode cX10_peek 15 = .ok (.aload_n 0, 1) := by decide +kernel
theorem dX10_peek_16 : decode cX10_peek 16 = .ok (.getfield 21, 3) := by decide +kernel
theorem dX10_peek_19 : decode cX10_peek 19 = .ok (.baload, 1) := by decide +kernel
theorem dX10_peek_20 : decode cX10_peek 20 = .ok (.sipush 255, 3) := by decide +kernel
theorem dX10_peek_23 : decode cX10_peek 23 = .ok (.iand, 1) := by decide +kernel
theorem dX10_peek_24 : decode cX10_peek 24 = .ok (.goto 4, 3) := by decide +kernel
theorem dX10_peek_27 : decode cX10_peek 27 = .ok (.iconst (-1), 1) := by decide +kernel
theorem dX10_peek_28 : decode cX10_peek 28 = .ok (.ireturn, 1) := by decide +kernel
theorem dX10_next_0 : decode cX10_next 0 = .ok (.aload_n 0, 1) := by decide +kernel
theorem dX10_next_1 : decode cX10_next 1 = .ok (.invokevirtual 169, 3) := by decide +kernel
theorem dX10_next_4 : decode cX10_next 4 = .ok (.bipush 32, 2) := by decide +kernel
theorem dX10_next_6 : decode cX10_next 6 = .ok (.if_icmp .eq 12, 3) := by decide +kernel
theorem dX10_next_9 : decode cX10_next 9 = .ok (.aload_n 0, 1) := by decide +kernel
theorem dX10_next_10 : decode cX10_next 10 = .ok (.invokevirtual 169, 3) := by decide +kernel
theorem dX10_next_13 : decode cX10_next 13 = .ok (.bipush 10, 2) := by decide +kernel
theorem dX10_next_15 : decode cX10_next 15 = .ok (.if_icmp .ne 16, 3) := by decide +kernel
theorem dX10_next_18 : decode cX10_next 18 = .ok (.aload_n 0, 1) := by decide +kernel
theorem dX10_next_19 : decode cX10_next 19 = .ok (.dup, 1) := by decide +kernel
theorem dX10_next_20 : decode cX10_next 20 = .ok (.getfield 21, 3) := by decide +kernel
theorem dX10_next_23 : decode cX10_next 23 = .ok (.iconst 1, 1) := by decide +kernel
theorem dX10_next_24 : decode cX10_next 24 = .ok (.iadd, 1) := by decide +kernel
theorem dX10_next_25 : decode cX10_next 25 = .ok (.putfield 21, 3) := by decide +kernel
theorem dX10_next_28 : decode cX10_next 28 = .ok (.goto (-28), 3) := by decide +kernel
theorem dX10_next_31 : decode cX10_next 31 = .ok (.aload_n 0, 1) := by decide +kernel
theorem dX10_next_32 : decode cX10_next 32 = .ok (.aload_n 0, 1) := by decide +kernel
theorem dX10_next_33 : decode cX10_next 33 = .ok (.getfield 21, 3) := by decide +kernel
theorem dX10_next_36 : decode cX10_next 36 = .ok (.putfield 173, 3) := by decide +kernel
theorem dX10_next_39 : decode cX10_next 39 = .ok (.aload_n 0, 1) := by decide +kernel
theorem dX10_next_40 : decode cX10_next 40 = .ok (.iconst 0, 1) := by decide +kernel
theorem dX10_next_41 : decode cX10_next 41 = .ok (.putfield 176, 3) := by decide +kernel
theorem dX10_next_44 : decode cX10_next 44 = .ok (.aload_n 0, 1) := by decide +kernel
theorem dX10_next_45 : decode cX10_next 45 = .ok (.getfield 18, 3) := by decide +kernel
theorem dX10_next_48 : decode cX10_next 48 = .ok (.aload_n 0, 1) := by decide +kernel
theorem dX10_next_49 : decode cX10_next 49 = .ok (.getfield 24, 3) := by decide +kernel
theorem dX10_next_52 : decode cX10_next 52 = .ok (.if_icmp .le 28, 3) := by decide +kernel
theorem dX10_next_55 : decode cX10_next 55 = .ok (.aload_n 0, 1) := by decide +kernel
theorem dX10_next_56 : decode cX10_next 56 = .ok (.getfield 21, 3) := by decide +kernel
theorem dX10_next_59 : decode cX10_next 59 = .ok (.aload_n 0, 1) := by decide +kernel
theorem dX10_next_60 : decode cX10_next 60 = .ok (.getfield 24, 3) := by decide +kernel
theorem dX10_next_63 : decode cX10_next 63 = .ok (.if_icmp .lt 17, 3) := by decide +kernel
theorem dX10_next_66 : decode cX10_next 66 = .ok (.aload_n 0, 1) := by decide +kernel
theorem dX10_next_67 : decode cX10_next 67 = .ok (.aload_n 0, 1) := by decide +kernel
theorem dX10_next_68 : decode cX10_next 68 = .ok (.getfield 24, 3) := by decide +kernel
theorem dX10_next_71 : decode cX10_next 71 = .ok (.putfield 173, 3) := by decide +kernel
theorem dX10_next_74 : decode cX10_next 74 = .ok (.aload_n 0, 1) := by decide +kernel
theorem dX10_next_75 : decode cX10_next 75 = .ok (.iconst 4, 1) := by decide +kernel
theorem dX10_next_76 : decode cX10_next 76 = .ok (.putfield 179, 3) := by decide +kernel
theorem dX10_next_79 : decode cX10_next 79 = .ok (.return_, 1) := by decide +kernel
theorem dX10_next_80 : decode cX10_next 80 = .ok (.aload_n 0, 1) := by decide +kernel
theorem dX10_next_81 : decode cX10_next 81 = .ok (.invokevirtual 169, 3) := by decide +kernel
theorem dX10_next_84 : decode cX10_next 84 = .ok (.istore_n 1, 1) := by decide +kernel
theorem dX10_next_85 : decode cX10_next 85 = .ok (.iload_n 1, 1) := by decide +kernel
theorem dX10_next_86 : decode cX10_next 86 = .ok (.ifCond .ge 9, 3) := by decide +kernel
theorem dX10_next_89 : decode cX10_next 89 = .ok (.aload_n 0, 1) := by decide +kernel
theorem dX10_next_90 : decode cX10_next 90 = .ok (.iconst 0, 1) := by decide +kernel
theorem dX10_next_91 : decode cX10_next 91 = .ok (.putfield 179, 3) := by decide +kernel
theorem dX10_next_94 : decode cX10_next 94 = .ok (.return_, 1) := by decide +kernel
theorem dX10_next_95 : decode cX10_next 95 = .ok (.iload_n 1, 1) := by decide +kernel
theorem dX10_next_96 : decode cX10_next 96 = .ok (.invokestatic 182, 3) := by decide +kernel
theorem dX10_next_99 : decode cX10_next 99 = .ok (.ifCond .ne 65, 3) := by decide +kernel
theorem dX10_next_102 : decode cX10_next 102 = .ok (.iload_n 1, 1) := by decide +kernel
theorem dX10_next_103 : decode cX10_next 103 = .ok (.invokestatic 186, 3) := by decide +kernel
theorem dX10_next_106 : decode cX10_next 106 = .ok (.ifCond .ne 58, 3) := by decide +kernel
theorem dX10_next_109 : decode cX10_next 109 = .ok (.aload_n 0, 1) := by decide +kernel
theorem dX10_next_110 : decode cX10_next 110 = .ok (.iload_n 1, 1) := by decide +kernel
theorem dX10_next_111 : decode cX10_next 111 = .ok (.bipush 59, 2) := by decide +kernel
theorem dX10_next_113 : decode cX10_next 113 = .ok (.if_icmp .eq 27, 3) := by decide +kernel
theorem dX10_next_116 : decode cX10_next 116 = .ok (.iload_n 1, 1) := by decide +kernel
theorem dX10_next_117 : decode cX10_next 117 = .ok (.bipush 40, 2) := by decide +kernel
theorem dX10_next_119 : decode cX10_next 119 = .ok (.if_icmp .eq 21, 3) := by decide +kernel
theorem dX10_next_122 : decode cX10_next 122 = .ok (.iload_n 1, 1) := by decide +kernel
theorem dX10_next_123 : decode cX10_next 123 = .ok (.bipush 41, 2) := by decide +kernel
theorem dX10_next_125 : decode cX10_next 125 = .ok (.if_icmp .eq 15, 3) := by decide +kernel
theorem dX10_next_128 : decode cX10_next 128 = .ok (.iload_n 1, 1) := by decide +kernel
theorem dX10_next_129 : decode cX10_next 129 = .ok (.bipush 60, 2) := by decide +kernel
theorem dX10_next_131 : decode cX10_next 131 = .ok (.if_icmp .lt 13, 3) := by decide +kernel
theorem dX10_next_134 : decode cX10_next 134 = .ok (.iload_n 1, 1) := by decide +kernel
theorem dX10_next_135 : decode cX10_next 135 = .ok (.bipush 62, 2) := by decide +kernel
theorem dX10_next_137 : decode cX10_next 137 = .ok (.if_icmp .gt 7, 3) := by decide +kernel
theorem dX10_next_140 : decode cX10_next 140 = .ok (.iconst 3, 1) := by decide +kernel
theorem dX10_next_141 : decode cX10_next 141 = .ok (.goto 4, 3) := by decide +kernel
theorem dX10_next_144 : decode cX10_next 144 = .ok (.iconst 4, 1) := by decide +kernel
theorem dX10_next_145 : decode cX10_next 145 = .ok (.putfield 179, 3) := by decide +kernel
theorem dX10_next_148 : decode cX10_next 148 = .ok (.aload_n 0, 1) := by decide +kernel
theorem dX10_next_149 : decode cX10_next 149 = .ok (.iload_n 1, 1) := by decide +kernel
theorem dX10_next_150 : decode cX10_next 150 = .ok (.putfield 189, 3) := by decide +kernel
theorem dX10_next_153 : decode cX10_next 153 = .ok (.aload_n 0, 1) := by decide +kernel
theorem dX10_next_154 : decode cX10_next 154 = .ok (.dup, 1) := by decide +kernel
theorem dX10_next_155 : decode cX10_next 155 = .ok (.getfield 21, 3) := by decide +kernel
theorem dX10_next_158 : decode cX10_next 158 = .ok (.iconst 1, 1) := by decide +kernel
theorem dX10_next_159 : decode cX10_next 159 = .ok (.iadd, 1) := by decide +kernel
theorem dX10_next_160 : decode cX10_next 160 = .ok (.putfield 21, 3) := by decide +kernel
theorem dX10_next_163 : decode cX10_next 163 = .ok (.return_, 1) := by decide +kernel
theorem dX10_next_164 : decode cX10_next 164 = .ok (.iload_n 1, 1) := by decide +kernel
theorem dX10_next_165 : decode cX10_next 165 = .ok (.invokestatic 182, 3) := by decide +kernel
theorem dX10_next_168 : decode cX10_next 168 = .ok (.istore_n 2, 1) := by decide +kernel
theorem dX10_next_169 : decode cX10_next 169 = .ok (.iconst 1, 1) := by decide +kernel
theorem dX10_next_170 : decode cX10_next 170 = .ok (.istore_n 3, 1) := by decide +kernel
theorem dX10_next_171 : decode cX10_next 171 = .ok (.aload_n 0, 1) := by decide +kernel
theorem dX10_next_172 : decode cX10_next 172 = .ok (.lconst 0, 1) := by decide +kernel
theorem dX10_next_173 : decode cX10_next 173 = .ok (.putfield 192, 3) := by decide +kernel
theorem dX10_next_176 : decode cX10_next 176 = .ok (.aload_n 0, 1) := by decide +kernel
theorem dX10_next_177 : decode cX10_next 177 = .ok (.iconst 0, 1) := by decide +kernel
theorem dX10_next_178 : decode cX10_next 178 = .ok (.putfield 189, 3) := by decide +kernel
theorem dX10_next_181 : decode cX10_next 181 = .ok (.aload_n 0, 1) := by decide +kernel
theorem dX10_next_182 : decode cX10_next 182 = .ok (.invokevirtual 169, 3) := by decide +kernel
theorem dX10_next_185 : decode cX10_next 185 = .ok (.invokestatic 182, 3) := by decide +kernel
theorem dX10_next_188 : decode cX10_next 188 = .ok (.ifCond .ne 13, 3) := by decide +kernel
theorem dX10_next_191 : decode cX10_next 191 = .ok (.aload_n 0, 1) := by decide +kernel
theorem dX10_next_192 : decode cX10_next 192 = .ok (.invokevirtual 169, 3) := by decide +kernel
theorem dX10_next_195 : decode cX10_next 195 = .ok (.invokestatic 186, 3) := by decide +kernel
theorem dX10_next_198 : decode cX10_next 198 = .ok (.ifCond .eq 100, 3) := by decide +kernel
theorem dX10_next_201 : decode cX10_next 201 = .ok (.iload_n 3, 1) := by decide +kernel
theorem dX10_next_202 : decode cX10_next 202 = .ok (.ifCond .eq 18, 3) := by decide +kernel
theorem dX10_next_205 : decode cX10_next 205 = .ok (.aload_n 0, 1) := by decide +kernel
theorem dX10_next_206 : decode cX10_next 206 = .ok (.invokevirtual 169, 3) := by decide +kernel
theorem dX10_next_209 : decode cX10_next 209 = .ok (.invokestatic 182, 3) := by decide +kernel
theorem dX10_next_212 : decode cX10_next 212 = .ok (.iload_n 2, 1) := by decide +kernel
theorem dX10_next_213 : decode cX10_next 213 = .ok (.if_icmp .ne 7, 3) := by decide +kernel
theorem dX10_next_216 : decode cX10_next 216 = .ok (.iconst 1, 1) := by decide +kernel
theorem dX10_next_217 : decode cX10_next 217 = .ok (.goto 4, 3) := by decide +kernel
theorem dX10_next_220 : decode cX10_next 220 = .ok (.iconst 0, 1) := by decide +kernel
theorem dX10_next_221 : decode cX10_next 221 = .ok (.istore_n 3, 1) := by decide +kernel
theorem dX10_next_222 : decode cX10_next 222 = .ok (.aload_n 0, 1) := by decide +kernel
theorem dX10_next_223 : decode cX10_next 223 = .ok (.getfield 176, 3) := by decide +kernel
theorem dX10_next_226 : decode cX10_next 226 = .ok (.bipush 7, 2) := by decide +kernel
theorem dX10_next_228 : decode cX10_next 228 = .ok (.if_icmp .ge 20, 3) := by decide +kernel
theorem dX10_next_231 : decode cX10_next 231 = .ok (.aload_n 0, 1) := by decide +kernel
theorem dX10_next_232 : decode cX10_next 232 = .ok (.aload_n 0, 1) := by decide +kernel
theorem dX10_next_233 : decode cX10_next 233 = .ok (.getfield 192, 3) := by decide +kernel
theorem dX10_next_236 : decode cX10_next 236 = .ok (.bipush 8, 2) := by decide +kernel
theorem dX10_next_238 : decode cX10_next 238 = .ok (.lshl, 1) := by decide +kernel
theorem dX10_next_239 : decode cX10_next 239 = .ok (.aload_n 0, 1) := by decide +kernel
theorem dX10_next_240 : decode cX10_next 240 = .ok (.invokevirtual 169, 3) := by decide +kernel
theorem dX10_next_243 : decode cX10_next 243 = .ok (.i2l, 1) := by decide +kernel
theorem dX10_next_244 : decode cX10_next 244 = .ok (.lor, 1) := by decide +kernel
theorem dX10_next_245 : decode cX10_next 245 = .ok (.putfield 192, 3) := by decide +kernel
theorem dX10_next_248 : decode cX10_next 248 = .ok (.aload_n 0, 1) := by decide +kernel
theorem dX10_next_249 : decode cX10_next 249 = .ok (.getfield 176, 3) := by decide +kernel
theorem dX10_next_252 : decode cX10_next 252 = .ok (.iconst 3, 1) := by decide +kernel
theorem dX10_next_253 : decode cX10_next 253 = .ok (.if_icmp .ge 22, 3) := by decide +kernel
theorem dX10_next_256 : decode cX10_next 256 = .ok (.aload_n 0, 1) := by decide +kernel
theorem dX10_next_257 : decode cX10_next 257 = .ok (.bipush 10, 2) := by decide +kernel
theorem dX10_next_259 : decode cX10_next 259 = .ok (.aload_n 0, 1) := by decide +kernel
theorem dX10_next_260 : decode cX10_next 260 = .ok (.getfield 189, 3) := by decide +kernel
theorem dX10_next_263 : decode cX10_next 263 = .ok (.imul, 1) := by decide +kernel
theorem dX10_next_264 : decode cX10_next 264 = .ok (.aload_n 0, 1) := by decide +kernel
theorem dX10_next_265 : decode cX10_next 265 = .ok (.invokevirtual 169, 3) := by decide +kernel
theorem dX10_next_268 : decode cX10_next 268 = .ok (.iadd, 1) := by decide +kernel
theorem dX10_next_269 : decode cX10_next 269 = .ok (.bipush 48, 2) := by decide +kernel
theorem dX10_next_271 : decode cX10_next 271 = .ok (.isub, 1) := by decide +kernel
theorem dX10_next_272 : decode cX10_next 272 = .ok (.putfield 189, 3) := by decide +kernel
theorem dX10_next_275 : decode cX10_next 275 = .ok (.aload_n 0, 1) := by decide +kernel
theorem dX10_next_276 : decode cX10_next 276 = .ok (.dup, 1) := by decide +kernel
theorem dX10_next_277 : decode cX10_next 277 = .ok (.getfield 176, 3) := by decide +kernel
theorem dX10_next_280 : decode cX10_next 280 = .ok (.iconst 1, 1) := by decide +kernel
theorem dX10_next_281 : decode cX10_next 281 = .ok (.iadd, 1) := by decide +kernel
theorem dX10_next_282 : decode cX10_next 282 = .ok (.putfield 176, 3) := by decide +kernel
theorem dX10_next_285 : decode cX10_next 285 = .ok (.aload_n 0, 1) := by decide +kernel
theorem dX10_next_286 : decode cX10_next 286 = .ok (.dup, 1) := by decide +kernel
theorem dX10_next_287 : decode cX10_next 287 = .ok (.getfield 21, 3) := by decide +kernel
theorem dX10_next_290 : decode cX10_next 290 = .ok (.iconst 1, 1) := by decide +kernel
theorem dX10_next_291 : decode cX10_next 291 = .ok (.iadd, 1) := by decide +kernel
theorem dX10_next_292 : decode cX10_next 292 = .ok (.putfield 21, 3) := by decide +kernel
theorem dX10_next_295 : decode cX10_next 295 = .ok (.goto (-114), 3) := by decide +kernel
theorem dX10_next_298 : decode cX10_next 298 = .ok (.aload_n 0, 1) := by decide +kernel
theorem dX10_next_299 : decode cX10_next 299 = .ok (.iload_n 3, 1) := by decide +kernel
theorem dX10_next_300 : decode cX10_next 300 = .ok (.ifCond .eq 20, 3) := by decide +kernel
theorem dX10_next_303 : decode cX10_next 303 = .ok (.aload_n 0, 1) := by decide +kernel
theorem dX10_next_304 : decode cX10_next 304 = .ok (.getfield 176, 3) := by decide +kernel
theorem dX10_next_307 : decode cX10_next 307 = .ok (.iload_n 2, 1) := by decide +kernel
theorem dX10_next_308 : decode cX10_next 308 = .ok (.ifCond .eq 8, 3) := by decide +kernel
theorem dX10_next_311 : decode cX10_next 311 = .ok (.bipush 7, 2) := by decide +kernel
theorem dX10_next_313 : decode cX10_next 313 = .ok (.goto 4, 3) := by decide +kernel
theorem dX10_next_316 : decode cX10_next 316 = .ok (.iconst 3, 1) := by decide +kernel
theorem dX10_next_317 : decode cX10_next 317 = .ok (.if_icmp .le 7, 3) := by decide +kernel
theorem dX10_next_320 : decode cX10_next 320 = .ok (.iconst 4, 1) := by decide +kernel
theorem dX10_next_321 : decode cX10_next 321 = .ok (.goto 12, 3) := by decide +kernel
theorem dX10_next_324 : decode cX10_next 324 = .ok (.iload_n 2, 1) := by decide +kernel
theorem dX10_next_325 : decode cX10_next 325 = .ok (.ifCond .eq 7, 3) := by decide +kernel
theorem dX10_next_328 : decode cX10_next 328 = .ok (.iconst 1, 1) := by decide +kernel
theorem dX10_next_329 : decode cX10_next 329 = .ok (.goto 4, 3) := by decide +kernel
theorem dX10_next_332 : decode cX10_next 332 = .ok (.iconst 2, 1) := by decide +kernel
theorem dX10_next_333 : decode cX10_next 333 = .ok (.putfield 179, 3) := by decide +kernel
theorem dX10_next_336 : decode cX10_next 336 = .ok (.return_, 1) := by decide +kernel
theorem dX10_bad_0 : decode cX10_bad 0 = .ok (.aload_n 0, 1) := by decide +kernel
theorem dX10_bad_1 : decode cX10_bad 1 = .ok (.iload_n 1, 1) := by decide +kernel
theorem dX10_bad_2 : decode cX10_bad 2 = .ok (.putfield 196, 3) := by decide +kernel
theorem dX10_bad_5 : decode cX10_bad 5 = .ok (.aload_n 0, 1) := by decide +kernel
theorem dX10_bad_6 : decode cX10_bad 6 = .ok (.aload_n 0, 1) := by decide +kernel
theorem dX10_bad_7 : decode cX10_bad 7 = .ok (.getfield 173, 3) := by decide +kernel
theorem dX10_bad_10 : decode cX10_bad 10 = .ok (.putfield 199, 3) := by decide +kernel
theorem dX10_bad_13 : decode cX10_bad 13 = .ok (.iconst 0, 1) := by decide +kernel
theorem dX10_bad_14 : decode cX10_bad 14 = .ok (.ireturn, 1) := by decide +kernel
theorem dX10_isWord_0 : decode cX10_isWord 0 = .ok (.aload_n 0, 1) := by decide +kernel
theorem dX10_isWord_1 : decode cX10_isWord 1 = .ok (.getfield 179, 3) := by decide +kernel
theorem dX10_isWord_4 : decode cX10_isWord 4 = .ok (.iconst 1, 1) := by decide +kernel
theorem dX10_isWord_5 : decode cX10_isWord 5 = .ok (.if_icmp .ne 16, 3) := by decide +kernel
theorem dX10_isWord_8 : decode cX10_isWord 8 = .ok (.aload_n 0, 1) := by decide +kernel
theorem dX10_isWord_9 : decode cX10_isWord 9 = .ok (.getfield 192, 3) := by decide +kernel
theorem dX10_isWord_12 : decode cX10_isWord 12 = .ok (.lload_n 1, 1) := by decide +kernel
theorem dX10_isWord_13 : decode cX10_isWord 13 = .ok (.lcmp, 1) := by decide +kernel
theorem dX10_isWord_14 : decode cX10_isWord 14 = .ok (.ifCond .ne 7, 3) := by decide +kernel
theorem dX10_isWord_17 : decode cX10_isWord 17 = .ok (.iconst 1, 1) := by decide +kernel
theorem dX10_isWord_18 : decode cX10_isWord 18 = .ok (.goto 4, 3) := by decide +kernel
theorem dX10_isWord_21 : decode cX10_isWord 21 = .ok (.iconst 0, 1) := by decide +kernel
theorem dX10_isWord_22 : decode cX10_isWord 22 = .ok (.ireturn, 1) := by decide +kernel
theorem dX10_isSign_0 : decode cX10_isSign 0 = .ok (.aload_n 0, 1) := by decide +kernel
theorem dX10_isSign_1 : decode cX10_isSign 1 = .ok (.getfield 179, 3) := by decide +kernel
theorem dX10_isSign_4 : decode cX10_isSign 4 = .ok (.iconst 3, 1) := by decide +kernel
theorem dX10_isSign_5 : decode cX10_isSign 5 = .ok (.if_icmp .ne 15, 3) := by decide +kernel
theorem dX10_isSign_8 : decode cX10_isSign 8 = .ok (.aload_n 0, 1) := by decide +kernel
theorem dX10_isSign_9 : decode cX10_isSign 9 = .ok (.getfield 189, 3) := by decide +kernel
theorem dX10_isSign_12 : decode cX10_isSign 12 = .ok (.iload_n 1, 1) := by decide +kernel
theorem dX10_isSign_13 : decode cX10_isSign 13 = .ok (.if_icmp .ne 7, 3) := by decide +kernel
theorem dX10_isSign_16 : decode cX10_isSign 16 = .ok (.iconst 1, 1) := by decide +kernel
theorem dX10_isSign_17 : decode cX10_isSign 17 = .ok (.goto 4, 3) := by decide +kernel
theorem dX10_isSign_20 : decode cX10_isSign 20 = .ok (.iconst 0, 1) := by decide +kernel
theorem dX10_isSign_21 : decode cX10_isSign 21 = .ok (.ireturn, 1) := by decide +kernel
theorem dX10_course_0 : decode cX10_course 0 = .ok (.aload_n 0, 1) := by decide +kernel
theorem dX10_course_1 : decode cX10_course 1 = .ok (.iconst 0, 1) := by decide +kernel
theorem dX10_course_2 : decode cX10_course 2 = .ok (.putfield 1, 3) := by decide +kernel
theorem dX10_course_5 : decode cX10_course 5 = .ok (.aload_n 0, 1) := by decide +kernel
theorem dX10_course_6 : decode cX10_course 6 = .ok (.sipush 900, 3) := by decide +kernel
theorem dX10_course_9 : decode cX10_course 9 = .ok (.invokevirtual 248, 3) := by decide +kernel
theorem dX10_course_12 : decode cX10_course 12 = .ok (.aload_n 0, 1) := by decide +kernel
theorem dX10_course_13 : decode cX10_course 13 = .ok (.iconst 0, 1) := by decide +kernel
theorem dX10_course_14 : decode cX10_course 14 = .ok (.putfield 196, 3) := by decide +kernel
theorem dX10_course_17 : decode cX10_course 17 = .ok (.aload_n 0, 1) := by decide +kernel
theorem dX10_course_18 : decode cX10_course 18 = .ok (.iconst 0, 1) := by decide +kernel
theorem dX10_course_19 : decode cX10_course 19 = .ok (.putfield 251, 3) := by decide +kernel
theorem dX10_course_22 : decode cX10_course 22 = .ok (.aload_n 0, 1) := by decide +kernel
theorem dX10_course_23 : decode cX10_course 23 = .ok (.iconst 0, 1) := by decide +kernel
theorem dX10_course_24 : decode cX10_course 24 = .ok (.putfield 229, 3) := by decide +kernel
theorem dX10_course_27 : decode cX10_course 27 = .ok (.aload_n 0, 1) := by decide +kernel
theorem dX10_course_28 : decode cX10_course 28 = .ok (.invokevirtual 166, 3) := by decide +kernel
theorem dX10_course_31 : decode cX10_course 31 = .ok (.aload_n 0, 1) := by decide +kernel
theorem dX10_course_32 : decode cX10_course 32 = .ok (.invokevirtual 208, 3) := by decide +kernel
theorem dX10_course_35 : decode cX10_course 35 = .ok (.aload_n 0, 1) := by decide +kernel
theorem dX10_course_36 : decode cX10_course 36 = .ok (.getfield 179, 3) := by decide +kernel
theorem dX10_course_39 : decode cX10_course 39 = .ok (.ifCond .eq 39, 3) := by decide +kernel
theorem dX10_course_42 : decode cX10_course 42 = .ok (.aload_n 0, 1) := by decide +kernel
theorem dX10_course_43 : decode cX10_course 43 = .ok (.invokevirtual 254, 3) := by decide +kernel
theorem dX10_course_46 : decode cX10_course 46 = .ok (.ifCond .eq 12, 3) := by decide +kernel
theorem dX10_course_49 : decode cX10_course 49 = .ok (.aload_n 0, 1) := by decide +kernel
theorem dX10_course_50 : decode cX10_course 50 = .ok (.bipush 59, 2) := by decide +kernel
theorem dX10_course_52 : decode cX10_course 52 = .ok (.invokevirtual 257, 3) := by decide +kernel
theorem dX10_course_55 : decode cX10_course 55 = .ok (.ifCond .ne 10, 3) := by decide +kernel
theorem dX10_course_58 : decode cX10_course 58 = .ok (.iconst (-1), 1) := by decide +kernel
theorem dX10_course_59 : decode cX10_course 59 = .ok (.aload_n 0, 1) := by decide +kernel
theorem dX10_course_60 : decode cX10_course 60 = .ok (.getfield 199, 3) := by decide +kernel
theorem dX10_course_63 : decode cX10_course 63 = .ok (.isub, 1) := by decide +kernel
theorem dX10_course_64 : decode cX10_course 64 = .ok (.ireturn, 1) := by decide +kernel
theorem dX10_course_65 : decode cX10_course 65 = .ok (.aload_n 0, 1) := by decide +kernel
theorem dX10_course_66 : decode cX10_course 66 = .ok (.dup, 1) := by decide +kernel
theorem dX10_course_67 : decode cX10_course 67 = .ok (.getfield 251, 3) := by decide +kernel
theorem dX10_course_70 : decode cX10_course 70 = .ok (.iconst 1, 1) := by decide +kernel
theorem dX10_course_71 : decode cX10_course 71 = .ok (.iadd, 1) := by decide +kernel
theorem dX10_course_72 : decode cX10_course 72 = .ok (.putfield 251, 3) := by decide +kernel
theorem dX10_course_75 : decode cX10_course 75 = .ok (.goto (-40), 3) := by decide +kernel
theorem dX10_course_78 : decode cX10_course 78 = .ok (.iconst 0, 1) := by decide +kernel
theorem dX10_course_79 : decode cX10_course 79 = .ok (.istore_n 1, 1) := by decide +kernel
theorem dX10_course_80 : decode cX10_course 80 = .ok (.iload_n 1, 1) := by decide +kernel
theorem dX10_course_81 : decode cX10_course 81 = .ok (.sipush 335, 3) := by decide +kernel
theorem dX10_course_84 : decode cX10_course 84 = .ok (.if_icmp .ge 31, 3) := by decide +kernel
theorem dX10_course_87 : decode cX10_course 87 = .ok (.aload_n 0, 1) := by decide +kernel
theorem dX10_course_88 : decode cX10_course 88 = .ok (.getfield 37, 3) := by decide +kernel
theorem dX10_course_91 : decode cX10_course 91 = .ok (.iload_n 1, 1) := by decide +kernel
theorem dX10_course_92 : decode cX10_course 92 = .ok (.iload_n 1, 1) := by decide +kernel
theorem dX10_course_93 : decode cX10_course 93 = .ok (.bipush 104, 2) := by decide +kernel
theorem dX10_course_95 : decode cX10_course 95 = .ok (.if_icmp .ge 12, 3) := by decide +kernel
theorem dX10_course_98 : decode cX10_course 98 = .ok (.aload_n 0, 1) := by decide +kernel
theorem dX10_course_99 : decode cX10_course 99 = .ok (.getfield 41, 3) := by decide +kernel
theorem dX10_course_102 : decode cX10_course 102 = .ok (.iload_n 1, 1) := by decide +kernel
theorem dX10_course_103 : decode cX10_course 103 = .ok (.iaload, 1) := by decide +kernel
theorem dX10_course_104 : decode cX10_course 104 = .ok (.goto 4, 3) := by decide +kernel
theorem dX10_course_107 : decode cX10_course 107 = .ok (.iconst 0, 1) := by decide +kernel
theorem dX10_course_108 : decode cX10_course 108 = .ok (.iastore, 1) := by decide +kernel
theorem dX10_course_109 : decode cX10_course 109 = .ok (.iinc 1 1, 3) := by decide +kernel
theorem dX10_course_112 : decode cX10_course 112 = .ok (.goto (-32), 3) := by decide +kernel
theorem dX10_course_115 : decode cX10_course 115 = .ok (.iconst 0, 1) := by decide +kernel
theorem dX10_course_116 : decode cX10_course 116 = .ok (.istore_n 1, 1) := by decide +kernel
theorem dX10_course_117 : decode cX10_course 117 = .ok (.iload_n 1, 1) := by decide +kernel
theorem dX10_course_118 : decode cX10_course 118 = .ok (.bipush 18, 2) := by decide +kernel
theorem dX10_course_120 : decode cX10_course 120 = .ok (.if_icmp .ge 24, 3) := by decide +kernel
theorem dX10_course_123 : decode cX10_course 123 = .ok (.aload_n 0, 1) := by decide +kernel
theorem dX10_course_124 : decode cX10_course 124 = .ok (.getfield 47, 3) := by decide +kernel
theorem dX10_course_127 : decode cX10_course 127 = .ok (.iload_n 1, 1) := by decide +kernel
theorem dX10_course_128 : decode cX10_course 128 = .ok (.aload_n 0, 1) := by decide +kernel
theorem dX10_course_129 : decode cX10_course 129 = .ok (.getfield 47, 3) := by decide +kernel
theorem dX10_course_132 : decode cX10_course 132 = .ok (.bipush 18, 2) := by decide +kernel
theorem dX10_course_134 : decode cX10_course 134 = .ok (.iload_n 1, 1) := by decide +kernel
theorem dX10_course_135 : decode cX10_course 135 = .ok (.iadd, 1) := by decide +kernel
theorem dX10_course_136 : decode cX10_course 136 = .ok (.laload, 1) := by decide +kernel
theorem dX10_course_137 : decode cX10_course 137 = .ok (.lastore, 1) := by decide +kernel
theorem dX10_course_138 : decode cX10_course 138 = .ok (.iinc 1 1, 3) := by decide +kernel
theorem dX10_course_141 : decode cX10_course 141 = .ok (.goto (-24), 3) := by decide +kernel
theorem dX10_course_144 : decode cX10_course 144 = .ok (.aload_n 0, 1) := by decide +kernel
theorem dX10_course_145 : decode cX10_course 145 = .ok (.dup, 1) := by decide +kernel
theorem dX10_course_146 : decode cX10_course 146 = .ok (.getfield 260, 3) := by decide +kernel
theorem dX10_course_149 : decode cX10_course 149 = .ok (.iconst 1, 1) := by decide +kernel
theorem dX10_course_150 : decode cX10_course 150 = .ok (.iadd, 1) := by decide +kernel
theorem dX10_course_151 : decode cX10_course 151 = .ok (.putfield 260, 3) := by decide +kernel
theorem dX10_course_154 : decode cX10_course 154 = .ok (.aload_n 0, 1) := by decide +kernel
theorem dX10_course_155 : decode cX10_course 155 = .ok (.getfield 37, 3) := by decide +kernel
theorem dX10_course_158 : decode cX10_course 158 = .ok (.sipush 334, 3) := by decide +kernel
theorem dX10_course_161 : decode cX10_course 161 = .ok (.aload_n 0, 1) := by decide +kernel
theorem dX10_course_162 : decode cX10_course 162 = .ok (.getfield 260, 3) := by decide +kernel
theorem dX10_course_165 : decode cX10_course 165 = .ok (.iastore, 1) := by decide +kernel
theorem dX10_course_166 : decode cX10_course 166 = .ok (.aload_n 0, 1) := by decide +kernel
theorem dX10_course_167 : decode cX10_course 167 = .ok (.getfield 37, 3) := by decide +kernel
theorem dX10_course_170 : decode cX10_course 170 = .ok (.bipush 115, 2) := by decide +kernel
theorem dX10_course_172 : decode cX10_course 172 = .ok (.iconst 1, 1) := by decide +kernel
theorem dX10_course_173 : decode cX10_course 173 = .ok (.iastore, 1) := by decide +kernel
theorem dX10_course_174 : decode cX10_course 174 = .ok (.iconst 0, 1) := by decide +kernel
theorem dX10_course_175 : decode cX10_course 175 = .ok (.istore_n 1, 1) := by decide +kernel
theorem dX10_course_176 : decode cX10_course 176 = .ok (.iload_n 1, 1) := by decide +kernel
theorem dX10_course_177 : decode cX10_course 177 = .ok (.aload_n 0, 1) := by decide +kernel
theorem dX10_course_178 : decode cX10_course 178 = .ok (.getfield 37, 3) := by decide +kernel
theorem dX10_course_181 : decode cX10_course 181 = .ok (.bipush 6, 2) := by decide +kernel
theorem dX10_course_183 : decode cX10_course 183 = .ok (.iaload, 1) := by decide +kernel
theorem dX10_course_184 : decode cX10_course 184 = .ok (.if_icmp .ge 27, 3) := by decide +kernel
theorem dX10_course_187 : decode cX10_course 187 = .ok (.aload_n 0, 1) := by decide +kernel
theorem dX10_course_188 : decode cX10_course 188 = .ok (.getfield 37, 3) := by decide +kernel
theorem dX10_course_191 : decode cX10_course 191 = .ok (.bipush 116, 2) := by decide +kernel
theorem dX10_course_193 : decode cX10_course 193 = .ok (.iload_n 1, 1) := by decide +kernel
theorem dX10_course_194 : decode cX10_course 194 = .ok (.iadd, 1) := by decide +kernel
theorem dX10_course_195 : decode cX10_course 195 = .ok (.aload_n 0, 1) := by decide +kernel
theorem dX10_course_196 : decode cX10_course 196 = .ok (.getfield 37, 3) := by decide +kernel
theorem dX10_course_199 : decode cX10_course 199 = .ok (.bipush 68, 2) := by decide +kernel
theorem dX10_course_201 : decode cX10_course 201 = .ok (.iload_n 1, 1) := by decide +kernel
theorem dX10_course_202 : decode cX10_course 202 = .ok (.iadd, 1) := by decide +kernel
theorem dX10_course_203 : decode cX10_course 203 = .ok (.iaload, 1) := by decide +kernel
theorem dX10_course_204 : decode cX10_course 204 = .ok (.iastore, 1) := by decide +kernel
theorem dX10_course_205 : decode cX10_course 205 = .ok (.iinc 1 1, 3) := by decide +kernel
theorem dX10_course_208 : decode cX10_course 208 = .ok (.goto (-32), 3) := by decide +kernel
theorem dX10_course_211 : decode cX10_course 211 = .ok (.aload_n 0, 1) := by decide +kernel
theorem dX10_course_212 : decode cX10_course 212 = .ok (.iconst 0, 1) := by decide +kernel
theorem dX10_course_213 : decode cX10_course 213 = .ok (.putfield 263, 3) := by decide +kernel
theorem dX10_course_216 : decode cX10_course 216 = .ok (.aload_n 0, 1) := by decide +kernel
theorem dX10_course_217 : decode cX10_course 217 = .ok (.getfield 251, 3) := by decide +kernel
theorem dX10_course_220 : decode cX10_course 220 = .ok (.ireturn, 1) := by decide +kernel
theorem dX10_fault_0 : decode cX10_fault 0 = .ok (.aload_n 0, 1) := by decide +kernel
theorem dX10_fault_1 : decode cX10_fault 1 = .ok (.iconst 0, 1) := by decide +kernel
theorem dX10_fault_2 : decode cX10_fault 2 = .ok (.putfield 1, 3) := by decide +kernel
theorem dX10_fault_5 : decode cX10_fault 5 = .ok (.aload_n 0, 1) := by decide +kernel
theorem dX10_fault_6 : decode cX10_fault 6 = .ok (.getfield 196, 3) := by decide +kernel
theorem dX10_fault_9 : decode cX10_fault 9 = .ok (.ireturn, 1) := by decide +kernel
theorem dX10_plan_0 : decode cX10_plan 0 = .ok (.aload_n 0, 1) := by decide +kernel
theorem dX10_plan_1 : decode cX10_plan 1 = .ok (.iconst 0, 1) := by decide +kernel
theorem dX10_plan_2 : decode cX10_plan 2 = .ok (.putfield 1, 3) := by decide +kernel
theorem dX10_plan_5 : decode cX10_plan 5 = .ok (.aload_n 0, 1) := by decide +kernel
theorem dX10_plan_6 : decode cX10_plan 6 = .ok (.sipush 400, 3) := by decide +kernel
theorem dX10_plan_9 : decode cX10_plan 9 = .ok (.invokevirtual 248, 3) := by decide +kernel
theorem dX10_plan_12 : decode cX10_plan 12 = .ok (.aload_n 0, 1) := by decide +kernel
theorem dX10_plan_13 : decode cX10_plan 13 = .ok (.iconst 0, 1) := by decide +kernel
theorem dX10_plan_14 : decode cX10_plan 14 = .ok (.putfield 196, 3) := by decide +kernel
theorem dX10_plan_17 : decode cX10_plan 17 = .ok (.aload_n 0, 1) := by decide +kernel
theorem dX10_plan_18 : decode cX10_plan 18 = .ok (.iconst 0, 1) := by decide +kernel
theorem dX10_plan_19 : decode cX10_plan 19 = .ok (.putfield 229, 3) := by decide +kernel
theorem dX10_plan_22 : decode cX10_plan 22 = .ok (.aload_n 0, 1) := by decide +kernel
theorem dX10_plan_23 : decode cX10_plan 23 = .ok (.iconst 0, 1) := by decide +kernel
theorem dX10_plan_24 : decode cX10_plan 24 = .ok (.putfield 272, 3) := by decide +kernel
theorem dX10_plan_27 : decode cX10_plan 27 = .ok (.aload_n 0, 1) := by decide +kernel
theorem dX10_plan_28 : decode cX10_plan 28 = .ok (.iconst 0, 1) := by decide +kernel
theorem dX10_plan_29 : decode cX10_plan 29 = .ok (.putfield 275, 3) := by decide +kernel
theorem dX10_plan_32 : decode cX10_plan 32 = .ok (.iconst 0, 1) := by decide +kernel
theorem dX10_plan_33 : decode cX10_plan 33 = .ok (.istore_n 1, 1) := by decide +kernel
theorem dX10_plan_34 : decode cX10_plan 34 = .ok (.iload_n 1, 1) := by decide +kernel
theorem dX10_plan_35 : decode cX10_plan 35 = .ok (.bipush 24, 2) := by decide +kernel
theorem dX10_plan_37 : decode cX10_plan 37 = .ok (.if_icmp .ge 16, 3) := by decide +kernel
theorem dX10_plan_40 : decode cX10_plan 40 = .ok (.aload_n 0, 1) := by decide +kernel
theorem dX10_plan_41 : decode cX10_plan 41 = .ok (.getfield 54, 3) := by decide +kernel
theorem dX10_plan_44 : decode cX10_plan 44 = .ok (.iload_n 1, 1) := by decide +kernel
theorem dX10_plan_45 : decode cX10_plan 45 = .ok (.iconst 0, 1) := by decide +kernel
theorem dX10_plan_46 : decode cX10_plan 46 = .ok (.iastore, 1) := by decide +kernel
theorem dX10_plan_47 : decode cX10_plan 47 = .ok (.iinc 1 1, 3) := by decide +kernel
theorem dX10_plan_50 : decode cX10_plan 50 = .ok (.goto (-16), 3) := by decide +kernel
theorem dX10_plan_53 : decode cX10_plan 53 = .ok (.iconst 0, 1) := by decide +kernel
theorem dX10_plan_54 : decode cX10_plan 54 = .ok (.istore_n 1, 1) := by decide +kernel
theorem dX10_plan_55 : decode cX10_plan 55 = .ok (.iload_n 1, 1) := by decide +kernel
theorem dX10_plan_56 : decode cX10_plan 56 = .ok (.iconst 4, 1) := by decide +kernel
theorem dX10_plan_57 : decode cX10_plan 57 = .ok (.if_icmp .ge 25, 3) := by decide +kernel
theorem dX10_plan_60 : decode cX10_plan 60 = .ok (.aload_n 0, 1) := by decide +kernel
theorem dX10_plan_61 : decode cX10_plan 61 = .ok (.getfield 54, 3) := by decide +kernel
theorem dX10_plan_64 : decode cX10_plan 64 = .ok (.iconst 5, 1) := by decide +kernel
theorem dX10_plan_65 : decode cX10_plan 65 = .ok (.iload_n 1, 1) := by decide +kernel
theorem dX10_plan_66 : decode cX10_plan 66 = .ok (.iadd, 1) := by decide +kernel
theorem dX10_plan_67 : decode cX10_plan 67 = .ok (.aload_n 0, 1) := by decide +kernel
theorem dX10_plan_68 : decode cX10_plan 68 = .ok (.getfield 37, 3) := by decide +kernel
theorem dX10_plan_71 : decode cX10_plan 71 = .ok (.iconst 0, 1) := by decide +kernel
theorem dX10_plan_72 : decode cX10_plan 72 = .ok (.iaload, 1) := by decide +kernel
theorem dX10_plan_73 : decode cX10_plan 73 = .ok (.iconst 1, 1) := by decide +kernel
theorem dX10_plan_74 : decode cX10_plan 74 = .ok (.isub, 1) := by decide +kernel
theorem dX10_plan_75 : decode cX10_plan 75 = .ok (.iastore, 1) := by decide +kernel
theorem dX10_plan_76 : decode cX10_plan 76 = .ok (.iinc 1 1, 3) := by decide +kernel
theorem dX10_plan_79 : decode cX10_plan 79 = .ok (.goto (-24), 3) := by decide +kernel
theorem dX10_plan_82 : decode cX10_plan 82 = .ok (.iconst 0, 1) := by decide +kernel
theorem dX10_plan_83 : decode cX10_plan 83 = .ok (.istore_n 1, 1) := by decide +kernel
theorem dX10_plan_84 : decode cX10_plan 84 = .ok (.iload_n 1, 1) := by decide +kernel
theorem dX10_plan_85 : decode cX10_plan 85 = .ok (.aload_n 0, 1) := by decide +kernel
theorem dX10_plan_86 : decode cX10_plan 86 = .ok (.getfield 37, 3) := by decide +kernel
theorem dX10_plan_89 : decode cX10_plan 89 = .ok (.bipush 6, 2) := by decide +kernel
theorem dX10_plan_91 : decode cX10_plan 91 = .ok (.iaload, 1) := by decide +kernel
theorem dX10_plan_92 : decode cX10_plan 92 = .ok (.if_icmp .ge 27, 3) := by decide +kernel
theorem dX10_plan_95 : decode cX10_plan 95 = .ok (.aload_n 0, 1) := by decide +kernel
theorem dX10_plan_96 : decode cX10_plan 96 = .ok (.getfield 54, 3) := by decide +kernel
theorem dX10_plan_99 : decode cX10_plan 99 = .ok (.bipush 12, 2) := by decide +kernel
theorem dX10_plan_101 : decode cX10_plan 101 = .ok (.iload_n 1, 1) := by decide +kernel
theorem dX10_plan_102 : decode cX10_plan 102 = .ok (.iadd, 1) := by decide +kernel
theorem dX10_plan_103 : decode cX10_plan 103 = .ok (.aload_n 0, 1) := by decide +kernel
theorem dX10_plan_104 : decode cX10_plan 104 = .ok (.getfield 37, 3) := by decide +kernel
theorem dX10_plan_107 : decode cX10_plan 107 = .ok (.bipush 68, 2) := by decide +kernel
theorem dX10_plan_109 : decode cX10_plan 109 = .ok (.iload_n 1, 1) := by decide +kernel
theorem dX10_plan_110 : decode cX10_plan 110 = .ok (.iadd, 1) := by decide +kernel
theorem dX10_plan_111 : decode cX10_plan 111 = .ok (.iaload, 1) := by decide +kernel
theorem dX10_plan_112 : decode cX10_plan 112 = .ok (.iastore, 1) := by decide +kernel
theorem dX10_plan_113 : decode cX10_plan 113 = .ok (.iinc 1 1, 3) := by decide +kernel
theorem dX10_plan_116 : decode cX10_plan 116 = .ok (.goto (-32), 3) := by decide +kernel
theorem dX10_plan_119 : decode cX10_plan 119 = .ok (.aload_n 0, 1) := by decide +kernel
theorem dX10_plan_120 : decode cX10_plan 120 = .ok (.getfield 54, 3) := by decide +kernel
theorem dX10_plan_123 : decode cX10_plan 123 = .ok (.bipush 11, 2) := by decide +kernel
theorem dX10_plan_125 : decode cX10_plan 125 = .ok (.iconst 1, 1) := by decide +kernel
theorem dX10_plan_126 : decode cX10_plan 126 = .ok (.iastore, 1) := by decide +kernel
theorem dX10_plan_127 : decode cX10_plan 127 = .ok (.iconst 0, 1) := by decide +kernel
theorem dX10_plan_128 : decode cX10_plan 128 = .ok (.istore_n 1, 1) := by decide +kernel
theorem dX10_plan_129 : decode cX10_plan 129 = .ok (.aload_n 0, 1) := by decide +kernel
theorem dX10_plan_130 : decode cX10_plan 130 = .ok (.invokevirtual 208, 3) := by decide +kernel
theorem dX10_plan_133 : decode cX10_plan 133 = .ok (.aload_n 0, 1) := by decide +kernel
theorem dX10_plan_134 : decode cX10_plan 134 = .ok (.getfield 179, 3) := by decide +kernel
theorem dX10_plan_137 : decode cX10_plan 137 = .ok (.ifCond .eq 32, 3) := by decide +kernel
theorem dX10_plan_140 : decode cX10_plan 140 = .ok (.aload_n 0, 1) := by decide +kernel
theorem dX10_plan_141 : decode cX10_plan 141 = .ok (.invokevirtual 278, 3) := by decide +kernel
theorem dX10_plan_144 : decode cX10_plan 144 = .ok (.ifCond .eq 12, 3) := by decide +kernel
theorem dX10_plan_147 : decode cX10_plan 147 = .ok (.aload_n 0, 1) := by decide +kernel
theorem dX10_plan_148 : decode cX10_plan 148 = .ok (.bipush 59, 2) := by decide +kernel
theorem dX10_plan_150 : decode cX10_plan 150 = .ok (.invokevirtual 257, 3) := by decide +kernel
theorem dX10_plan_153 : decode cX10_plan 153 = .ok (.ifCond .ne 10, 3) := by decide +kernel
theorem dX10_plan_156 : decode cX10_plan 156 = .ok (.iconst (-1), 1) := by decide +kernel
theorem dX10_plan_157 : decode cX10_plan 157 = .ok (.aload_n 0, 1) := by decide +kernel
theorem dX10_plan_158 : decode cX10_plan 158 = .ok (.getfield 199, 3) := by decide +kernel
theorem dX10_plan_161 : decode cX10_plan 161 = .ok (.isub, 1) := by decide +kernel
theorem dX10_plan_162 : decode cX10_plan 162 = .ok (.ireturn, 1) := by decide +kernel
theorem dX10_plan_163 : decode cX10_plan 163 = .ok (.iinc 1 1, 3) := by decide +kernel
theorem dX10_plan_166 : decode cX10_plan 166 = .ok (.goto (-33), 3) := by decide +kernel
theorem dX10_plan_169 : decode cX10_plan 169 = .ok (.iconst 0, 1) := by decide +kernel
theorem dX10_plan_170 : decode cX10_plan 170 = .ok (.istore_n 2, 1) := by decide +kernel
theorem dX10_plan_171 : decode cX10_plan 171 = .ok (.iload_n 2, 1) := by decide +kernel
theorem dX10_plan_172 : decode cX10_plan 172 = .ok (.bipush 24, 2) := by decide +kernel
theorem dX10_plan_174 : decode cX10_plan 174 = .ok (.if_icmp .ge 24, 3) := by decide +kernel
theorem dX10_plan_177 : decode cX10_plan 177 = .ok (.aload_n 0, 1) := by decide +kernel
theorem dX10_plan_178 : decode cX10_plan 178 = .ok (.getfield 37, 3) := by decide +kernel
theorem dX10_plan_181 : decode cX10_plan 181 = .ok (.bipush 104, 2) := by decide +kernel
theorem dX10_plan_183 : decode cX10_plan 183 = .ok (.iload_n 2, 1) := by decide +kernel
theorem dX10_plan_184 : decode cX10_plan 184 = .ok (.iadd, 1) := by decide +kernel
theorem dX10_plan_185 : decode cX10_plan 185 = .ok (.aload_n 0, 1) := by decide +kernel
theorem dX10_plan_186 : decode cX10_plan 186 = .ok (.getfield 54, 3) := by decide +kernel
theorem dX10_plan_189 : decode cX10_plan 189 = .ok (.iload_n 2, 1) := by decide +kernel
theorem dX10_plan_190 : decode cX10_plan 190 = .ok (.iaload, 1) := by decide +kernel
theorem dX10_plan_191 : decode cX10_plan 191 = .ok (.iastore, 1) := by decide +kernel
theorem dX10_plan_192 : decode cX10_plan 192 = .ok (.iinc 2 1, 3) := by decide +kernel
theorem dX10_plan_195 : decode cX10_plan 195 = .ok (.goto (-24), 3) := by decide +kernel
theorem dX10_plan_198 : decode cX10_plan 198 = .ok (.aload_n 0, 1) := by decide +kernel
theorem dX10_plan_199 : decode cX10_plan 199 = .ok (.iconst 0, 1) := by decide +kernel
theorem dX10_plan_200 : decode cX10_plan 200 = .ok (.putfield 263, 3) := by decide +kernel
theorem dX10_plan_203 : decode cX10_plan 203 = .ok (.iload_n 1, 1) := by decide +kernel
theorem dX10_plan_204 : decode cX10_plan 204 = .ok (.ireturn, 1) := by decide +kernel
theorem dX10_hasCrew_0 : decode cX10_hasCrew 0 = .ok (.aload_n 0, 1) := by decide +kernel
theorem dX10_hasCrew_1 : decode cX10_hasCrew 1 = .ok (.getfield 37, 3) := by decide +kernel
theorem dX10_hasCrew_4 : decode cX10_hasCrew 4 = .ok (.bipush 104, 2) := by decide +kernel
theorem dX10_hasCrew_6 : decode cX10_hasCrew 6 = .ok (.iaload, 1) := by decide +kernel
theorem dX10_hasCrew_7 : decode cX10_hasCrew 7 = .ok (.iconst 1, 1) := by decide +kernel
theorem dX10_hasCrew_8 : decode cX10_hasCrew 8 = .ok (.if_icmp .ne 7, 3) := by decide +kernel
theorem dX10_hasCrew_11 : decode cX10_hasCrew 11 = .ok (.iconst 1, 1) := by decide +kernel
theorem dX10_hasCrew_12 : decode cX10_hasCrew 12 = .ok (.goto 4, 3) := by decide +kernel
theorem dX10_hasCrew_15 : decode cX10_hasCrew 15 = .ok (.iconst 0, 1) := by decide +kernel
theorem dX10_hasCrew_16 : decode cX10_hasCrew 16 = .ok (.ireturn, 1) := by decide +kernel
theorem dX10_man_0 : decode cX10_man 0 = .ok (.aload_n 0, 1) := by decide +kernel
theorem dX10_man_1 : decode cX10_man 1 = .ok (.iload_n 1, 1) := by decide +kernel
theorem dX10_man_2 : decode cX10_man 2 = .ok (.iconst 0, 1) := by decide +kernel
theorem dX10_man_3 : decode cX10_man 3 = .ok (.aload_n 0, 1) := by decide +kernel
theorem dX10_man_4 : decode cX10_man 4 = .ok (.getfield 37, 3) := by decide +kernel
theorem dX10_man_7 : decode cX10_man 7 = .ok (.iconst 5, 1) := by decide +kernel
theorem dX10_man_8 : decode cX10_man 8 = .ok (.iaload, 1) := by decide +kernel
theorem dX10_man_9 : decode cX10_man 9 = .ok (.iconst 1, 1) := by decide +kernel
theorem dX10_man_10 : decode cX10_man 10 = .ok (.isub, 1) := by decide +kernel
theorem dX10_man_11 : decode cX10_man 11 = .ok (.invokestatic 211, 3) := by decide +kernel
theorem dX10_man_14 : decode cX10_man 14 = .ok (.ifCond .eq 12, 3) := by decide +kernel
theorem dX10_man_17 : decode cX10_man 17 = .ok (.iload_n 2, 1) := by decide +kernel
theorem dX10_man_18 : decode cX10_man 18 = .ok (.iconst 0, 1) := by decide +kernel
theorem dX10_man_19 : decode cX10_man 19 = .ok (.iconst 4, 1) := by decide +kernel
theorem dX10_man_20 : decode cX10_man 20 = .ok (.invokestatic 211, 3) := by decide +kernel
theorem dX10_man_23 : decode cX10_man 23 = .ok (.ifCond .ne 7, 3) := by decide +kernel
theorem dX10_man_26 : decode cX10_man 26 = .ok (.iconst 1, 1) := by decide +kernel
theorem dX10_man_27 : decode cX10_man 27 = .ok (.goto 4, 3) := by decide +kernel
theorem dX10_man_30 : decode cX10_man 30 = .ok (.iconst 0, 1) := by decide +kernel
theorem dX10_man_31 : decode cX10_man 31 = .ok (.invokevirtual 284, 3) := by decide +kernel
theorem dX10_man_34 : decode cX10_man 34 = .ok (.ifCond .eq 5, 3) := by decide +kernel
theorem dX10_man_37 : decode cX10_man 37 = .ok (.iconst 0, 1) := by decide +kernel
theorem dX10_man_38 : decode cX10_man 38 = .ok (.ireturn, 1) := by decide +kernel
theorem dX10_man_39 : decode cX10_man 39 = .ok (.aload_n 0, 1) := by decide +kernel
theorem dX10_man_40 : decode cX10_man 40 = .ok (.iload_n 1, 1) := by decide +kernel
theorem dX10_man_41 : decode cX10_man 41 = .ok (.invokevirtual 288, 3) := by decide +kernel
theorem dX10_man_44 : decode cX10_man 44 = .ok (.istore_n 3, 1) := by decide +kernel
theorem dX10_man_45 : decode cX10_man 45 = .ok (.iload_n 2, 1) := by decide +kernel
theorem dX10_man_46 : decode cX10_man 46 = .ok (.tableswitch 62 0 3 #[30, 40, 50, 60], 30) := by decide +kernel
theorem dX10_man_76 : decode cX10_man 76 = .ok (.aload_n 0, 1) := by decide +kernel
theorem dX10_man_77 : decode cX10_man 77 = .ok (.getfield 37, 3) := by decide +kernel
theorem dX10_man_80 : decode cX10_man 80 = .ok (.bipush 8, 2) := by decide +kernel
theorem dX10_man_82 : decode cX10_man 82 = .ok (.iload_n 1, 1) := by decide +kernel
theorem dX10_man_83 : decode cX10_man 83 = .ok (.iadd, 1) := by decide +kernel
theorem dX10_man_84 : decode cX10_man 84 = .ok (.iaload, 1) := by decide +kernel
theorem dX10_man_85 : decode cX10_man 85 = .ok (.ireturn, 1) := by decide +kernel
theorem dX10_man_86 : decode cX10_man 86 = .ok (.aload_n 0, 1) := by decide +kernel
theorem dX10_man_87 : decode cX10_man 87 = .ok (.getfield 37, 3) := by decide +kernel
theorem dX10_man_90 : decode cX10_man 90 = .ok (.bipush 20, 2) := by decide +kernel
theorem dX10_man_92 : decode cX10_man 92 = .ok (.iload_n 1, 1) := by decide +kernel
theorem dX10_man_93 : decode cX10_man 93 = .ok (.iadd, 1) := by decide +kernel
theorem dX10_man_94 : decode cX10_man 94 = .ok (.iaload, 1) := by decide +kernel
theorem dX10_man_95 : decode cX10_man 95 = .ok (.ireturn, 1) := by decide +kernel
theorem dX10_man_96 : decode cX10_man 96 = .ok (.aload_n 0, 1) := by decide +kernel
theorem dX10_man_97 : decode cX10_man 97 = .ok (.getfield 37, 3) := by decide +kernel
theorem dX10_man_100 : decode cX10_man 100 = .ok (.bipush 32, 2) := by decide +kernel
theorem dX10_man_102 : decode cX10_man 102 = .ok (.iload_n 1, 1) := by decide +kernel
theorem dX10_man_103 : decode cX10_man 103 = .ok (.iadd, 1) := by decide +kernel
theorem dX10_man_104 : decode cX10_man 104 = .ok (.iaload, 1) := by decide +kernel
theorem dX10_man_105 : decode cX10_man 105 = .ok (.ireturn, 1) := by decide +kernel
theorem dX10_man_106 : decode cX10_man 106 = .ok (.iload_n 3, 1) := by decide +kernel
theorem dX10_man_107 : decode cX10_man 107 = .ok (.ireturn, 1) := by decide +kernel
theorem dX10_man_108 : decode cX10_man 108 = .ok (.iload_n 3, 1) := by decide +kernel
theorem dX10_man_109 : decode cX10_man 109 = .ok (.ifCond .ge 7, 3) := by decide +kernel
theorem dX10_man_112 : decode cX10_man 112 = .ok (.iconst (-1), 1) := by decide +kernel
theorem dX10_man_113 : decode cX10_man 113 = .ok (.goto 12, 3) := by decide +kernel
theorem dX10_man_116 : decode cX10_man 116 = .ok (.aload_n 0, 1) := by decide +kernel
theorem dX10_man_117 : decode cX10_man 117 = .ok (.getfield 37, 3) := by decide +kernel
theorem dX10_man_120 : decode cX10_man 120 = .ok (.bipush 109, 2) := by decide +kernel
theorem dX10_man_122 : decode cX10_man 122 = .ok (.iload_n 3, 1) := by decide +kernel
theorem dX10_man_123 : decode cX10_man 123 = .ok (.iadd, 1) := by decide +kernel
theorem dX10_man_124 : decode cX10_man 124 = .ok (.iaload, 1) := by decide +kernel
theorem dX10_man_125 : decode cX10_man 125 = .ok (.ireturn, 1) := by decide +kernel
theorem dX10_isBend_0 : decode cX10_isBend 0 = .ok (.iload_n 1, 1) := by decide +kernel
theorem dX10_isBend_1 : decode cX10_isBend 1 = .ok (.iconst 0, 1) := by decide +kernel
theorem dX10_isBend_2 : decode cX10_isBend 2 = .ok (.aload_n 0, 1) := by decide +kernel
theorem dX10_isBend_3 : decode cX10_isBend 3 = .ok (.getfield 37, 3) := by decide +kernel
theorem dX10_isBend_6 : decode cX10_isBend 6 = .ok (.bipush 6, 2) := by decide +kernel
theorem dX10_isBend_8 : decode cX10_isBend 8 = .ok (.iaload, 1) := by decide +kernel
theorem dX10_isBend_9 : decode cX10_isBend 9 = .ok (.iconst 1, 1) := by decide +kernel
theorem dX10_isBend_10 : decode cX10_isBend 10 = .ok (.isub, 1) := by decide +kernel
theorem dX10_isBend_11 : decode cX10_isBend 11 = .ok (.invokestatic 211, 3) := by decide +kernel
theorem dX10_isBend_14 : decode cX10_isBend 14 = .ok (.ireturn, 1) := by decide +kernel
theorem dX10_bend_0 : decode cX10_bend 0 = .ok (.aload_n 0, 1) := by decide +kernel
theorem dX10_bend_1 : decode cX10_bend 1 = .ok (.iconst 0, 1) := by decide +kernel
theorem dX10_bend_2 : decode cX10_bend 2 = .ok (.putfield 1, 3) := by decide +kernel
theorem dX10_bend_5 : decode cX10_bend 5 = .ok (.aload_n 0, 1) := by decide +kernel
theorem dX10_bend_6 : decode cX10_bend 6 = .ok (.iload_n 1, 1) := by decide +kernel
theorem dX10_bend_7 : decode cX10_bend 7 = .ok (.invokevirtual 292, 3) := by decide +kernel
theorem dX10_bend_10 : decode cX10_bend 10 = .ok (.ifCond .ne 5, 3) := by decide +kernel
theorem dX10_bend_13 : decode cX10_bend 13 = .ok (.iconst (-1), 1) := by decide +kernel
theorem dX10_bend_14 : decode cX10_bend 14 = .ok (.ireturn, 1) := by decide +kernel
theorem dX10_bend_15 : decode cX10_bend 15 = .ok (.iload_n 2, 1) := by decide +kernel
theorem dX10_bend_16 : decode cX10_bend 16 = .ok (.tableswitch 86 0 4 #[36, 46, 56, 66, 76], 36) := by decide +kernel
theorem dX10_bend_52 : decode cX10_bend 52 = .ok (.aload_n 0, 1) := by decide +kernel
theorem dX10_bend_53 : decode cX10_bend 53 = .ok (.getfield 37, 3) := by decide +kernel
theorem dX10_bend_56 : decode cX10_bend 56 = .ok (.bipush 44, 2) := by decide +kernel
theorem dX10_bend_58 : decode cX10_bend 58 = .ok (.iload_n 1, 1) := by decide +kernel
theorem dX10_bend_59 : decode cX10_bend 59 = .ok (.iadd, 1) := by decide +kernel
theorem dX10_bend_60 : decode cX10_bend 60 = .ok (.iaload, 1) := by decide +kernel
theorem dX10_bend_61 : decode cX10_bend 61 = .ok (.ireturn, 1) := by decide +kernel
theorem dX10_bend_62 : decode cX10_bend 62 = .ok (.aload_n 0, 1) := by decide +kernel
theorem dX10_bend_63 : decode cX10_bend 63 = .ok (.getfield 37, 3) := by decide +kernel
theorem dX10_bend_66 : decode cX10_bend 66 = .ok (.bipush 56, 2) := by decide +kernel
theorem dX10_bend_68 : decode cX10_bend 68 = .ok (.iload_n 1, 1) := by decide +kernel
theorem dX10_bend_69 : decode cX10_bend 69 = .ok (.iadd, 1) := by decide +kernel
theorem dX10_bend_70 : decode cX10_bend 70 = .ok (.iaload, 1) := by decide +kernel
theorem dX10_bend_71 : decode cX10_bend 71 = .ok (.ireturn, 1) := by decide +kernel
theorem dX10_bend_72 : decode cX10_bend 72 = .ok (.aload_n 0, 1) := by decide +kernel
theorem dX10_bend_73 : decode cX10_bend 73 = .ok (.getfield 37, 3) := by decide +kernel
theorem dX10_bend_76 : decode cX10_bend 76 = .ok (.bipush 68, 2) := by decide +kernel
theorem dX10_bend_78 : decode cX10_bend 78 = .ok (.iload_n 1, 1) := by decide +kernel
theorem dX10_bend_79 : decode cX10_bend 79 = .ok (.iadd, 1) := by decide +kernel
theorem dX10_bend_80 : decode cX10_bend 80 = .ok (.iaload, 1) := by decide +kernel
theorem dX10_bend_81 : decode cX10_bend 81 = .ok (.ireturn, 1) := by decide +kernel
theorem dX10_bend_82 : decode cX10_bend 82 = .ok (.aload_n 0, 1) := by decide +kernel
theorem dX10_bend_83 : decode cX10_bend 83 = .ok (.getfield 37, 3) := by decide +kernel
theorem dX10_bend_86 : decode cX10_bend 86 = .ok (.bipush 80, 2) := by decide +kernel
theorem dX10_bend_88 : decode cX10_bend 88 = .ok (.iload_n 1, 1) := by decide +kernel
theorem dX10_bend_89 : decode cX10_bend 89 = .ok (.iadd, 1) := by decide +kernel
theorem dX10_bend_90 : decode cX10_bend 90 = .ok (.iaload, 1) := by decide +kernel
theorem dX10_bend_91 : decode cX10_bend 91 = .ok (.ireturn, 1) := by decide +kernel
theorem dX10_bend_92 : decode cX10_bend 92 = .ok (.aload_n 0, 1) := by decide +kernel
theorem dX10_bend_93 : decode cX10_bend 93 = .ok (.getfield 37, 3) := by decide +kernel
theorem dX10_bend_96 : decode cX10_bend 96 = .ok (.bipush 116, 2) := by decide +kernel
theorem dX10_bend_98 : decode cX10_bend 98 = .ok (.iload_n 1, 1) := by decide +kernel
theorem dX10_bend_99 : decode cX10_bend 99 = .ok (.iadd, 1) := by decide +kernel
theorem dX10_bend_100 : decode cX10_bend 100 = .ok (.iaload, 1) := by decide +kernel
theorem dX10_bend_101 : decode cX10_bend 101 = .ok (.ireturn, 1) := by decide +kernel
theorem dX10_bend_102 : decode cX10_bend 102 = .ok (.iconst (-1), 1) := by decide +kernel
theorem dX10_bend_103 : decode cX10_bend 103 = .ok (.ireturn, 1) := by decide +kernel
theorem dX10_isRunner_0 : decode cX10_isRunner 0 = .ok (.iload_n 1, 1) := by decide +kernel
theorem dX10_isRunner_1 : decode cX10_isRunner 1 = .ok (.iconst 0, 1) := by decide +kernel
theorem dX10_isRunner_2 : decode cX10_isRunner 2 = .ok (.aload_n 0, 1) := by decide +kernel
theorem dX10_isRunner_3 : decode cX10_isRunner 3 = .ok (.getfield 37, 3) := by decide +kernel
theorem dX10_isRunner_6 : decode cX10_isRunner 6 = .ok (.bipush 7, 2) := by decide +kernel
theorem dX10_isRunner_8 : decode cX10_isRunner 8 = .ok (.iaload, 1) := by decide +kernel
theorem dX10_isRunner_9 : decode cX10_isRunner 9 = .ok (.iconst 1, 1) := by decide +kernel
theorem dX10_isRunner_10 : decode cX10_isRunner 10 = .ok (.isub, 1) := by decide +kernel
theorem dX10_isRunner_11 : decode cX10_isRunner 11 = .ok (.invokestatic 211, 3) := by decide +kernel
theorem dX10_isRunner_14 : decode cX10_isRunner 14 = .ok (.ireturn, 1) := by decide +kernel
theorem dX10_runner_0 : decode cX10_runner 0 = .ok (.aload_n 0, 1) := by decide +kernel
theorem dX10_runner_1 : decode cX10_runner 1 = .ok (.iconst 0, 1) := by decide +kernel
theorem dX10_runner_2 : decode cX10_runner 2 = .ok (.putfield 1, 3) := by decide +kernel
theorem dX10_runner_5 : decode cX10_runner 5 = .ok (.aload_n 0, 1) := by decide +kernel
theorem dX10_runner_6 : decode cX10_runner 6 = .ok (.iload_n 1, 1) := by decide +kernel
theorem dX10_runner_7 : decode cX10_runner 7 = .ok (.invokevirtual 298, 3) := by decide +kernel
theorem dX10_runner_10 : decode cX10_runner 10 = .ok (.ifCond .ne 5, 3) := by decide +kernel
theorem dX10_runner_13 : decode cX10_runner 13 = .ok (.iconst (-1), 1) := by decide +kernel
theorem dX10_runner_14 : decode cX10_runner 14 = .ok (.ireturn, 1) := by decide +kernel
theorem dX10_runner_15 : decode cX10_runner 15 = .ok (.iload_n 2, 1) := by decide +kernel
theorem dX10_runner_16 : decode cX10_runner 16 = .ok (.ifCond .ne 15, 3) := by decide +kernel
theorem dX10_runner_19 : decode cX10_runner 19 = .ok (.aload_n 0, 1) := by decide +kernel
theorem dX10_runner_20 : decode cX10_runner 20 = .ok (.getfield 37, 3) := by decide +kernel
theorem dX10_runner_23 : decode cX10_runner 23 = .ok (.bipush 92, 2) := by decide +kernel
theorem dX10_runner_25 : decode cX10_runner 25 = .ok (.iload_n 1, 1) := by decide +kernel
theorem dX10_runner_26 : decode cX10_runner 26 = .ok (.iadd, 1) := by decide +kernel
theorem dX10_runner_27 : decode cX10_runner 27 = .ok (.iaload, 1) := by decide +kernel
theorem dX10_runner_28 : decode cX10_runner 28 = .ok (.goto 34, 3) := by decide +kernel
theorem dX10_runner_31 : decode cX10_runner 31 = .ok (.iload_n 2, 1) := by decide +kernel
theorem dX10_runner_32 : decode cX10_runner 32 = .ok (.iconst 1, 1) := by decide +kernel
theorem dX10_runner_33 : decode cX10_runner 33 = .ok (.if_icmp .ne 15, 3) := by decide +kernel
theorem dX10_runner_36 : decode cX10_runner 36 = .ok (.aload_n 0, 1) := by decide +kernel
theorem dX10_runner_37 : decode cX10_runner 37 = .ok (.getfield 37, 3) := by decide +kernel
theorem dX10_runner_40 : decode cX10_runner 40 = .ok (.bipush 98, 2) := by decide +kernel
theorem dX10_runner_42 : decode cX10_runner 42 = .ok (.iload_n 1, 1) := by decide +kernel
theorem dX10_runner_43 : decode cX10_runner 43 = .ok (.iadd, 1) := by decide +kernel
theorem dX10_runner_44 : decode cX10_runner 44 = .ok (.iaload, 1) := by decide +kernel
theorem dX10_runner_45 : decode cX10_runner 45 = .ok (.goto 17, 3) := by decide +kernel
theorem dX10_runner_48 : decode cX10_runner 48 = .ok (.iload_n 2, 1) := by decide +kernel
theorem dX10_runner_49 : decode cX10_runner 49 = .ok (.iconst 2, 1) := by decide +kernel
theorem dX10_runner_50 : decode cX10_runner 50 = .ok (.if_icmp .ne 11, 3) := by decide +kernel
theorem dX10_runner_53 : decode cX10_runner 53 = .ok (.aload_n 0, 1) := by decide +kernel
theorem dX10_runner_54 : decode cX10_runner 54 = .ok (.iload_n 1, 1) := by decide +kernel
theorem dX10_runner_55 : decode cX10_runner 55 = .ok (.invokevirtual 301, 3) := by decide +kernel
theorem dX10_runner_58 : decode cX10_runner 58 = .ok (.goto 4, 3) := by decide +kernel
theorem dX10_runner_61 : decode cX10_runner 61 = .ok (.iconst (-1), 1) := by decide +kernel
theorem dX10_runner_62 : decode cX10_runner 62 = .ok (.ireturn, 1) := by decide +kernel
theorem dX10_start_0 : decode cX10_start 0 = .ok (.aload_n 0, 1) := by decide +kernel
theorem dX10_start_1 : decode cX10_start 1 = .ok (.iconst 0, 1) := by decide +kernel
theorem dX10_start_2 : decode cX10_start 2 = .ok (.putfield 1, 3) := by decide +kernel
theorem dX10_start_5 : decode cX10_start 5 = .ok (.aload_n 0, 1) := by decide +kernel
theorem dX10_start_6 : decode cX10_start 6 = .ok (.invokevirtual 281, 3) := by decide +kernel
theorem dX10_start_9 : decode cX10_start 9 = .ok (.ifCond .ne 5, 3) := by decide +kernel
theorem dX10_start_12 : decode cX10_start 12 = .ok (.iconst (-1), 1) := by decide +kernel
theorem dX10_start_13 : decode cX10_start 13 = .ok (.ireturn, 1) := by decide +kernel
theorem dX10_start_14 : decode cX10_start 14 = .ok (.aload_n 0, 1) := by decide +kernel
theorem dX10_start_15 : decode cX10_start 15 = .ok (.invokevirtual 340, 3) := by decide +kernel
theorem dX10_start_18 : decode cX10_start 18 = .ok (.iload_n 1, 1) := by decide +kernel
theorem dX10_start_19 : decode cX10_start 19 = .ok (.tableswitch 58 0 4 #[33, 38, 43, 48, 53], 33) := by decide +kernel
theorem dX10_start_52 : decode cX10_start 52 = .ok (.aload_n 0, 1) := by decide +kernel
theorem dX10_start_53 : decode cX10_start 53 = .ok (.getfield 314, 3) := by decide +kernel
theorem dX10_start_56 : decode cX10_start 56 = .ok (.ireturn, 1) := by decide +kernel
theorem dX10_start_57 : decode cX10_start 57 = .ok (.aload_n 0, 1) := by decide +kernel
theorem dX10_start_58 : decode cX10_start 58 = .ok (.getfield 337, 3) := by decide +kernel
theorem dX10_start_61 : decode cX10_start 61 = .ok (.ireturn, 1) := by decide +kernel
theorem dX10_start_62 : decode cX10_start 62 = .ok (.aload_n 0, 1) := by decide +kernel
theorem dX10_start_63 : decode cX10_start 63 = .ok (.getfield 317, 3) := by decide +kernel
theorem dX10_start_66 : decode cX10_start 66 = .ok (.ireturn, 1) := by decide +kernel
theorem dX10_start_67 : decode cX10_start 67 = .ok (.aload_n 0, 1) := by decide +kernel
theorem dX10_start_68 : decode cX10_start 68 = .ok (.getfield 320, 3) := by decide +kernel
theorem dX10_start_71 : decode cX10_start 71 = .ok (.ireturn, 1) := by decide +kernel
theorem dX10_start_72 : decode cX10_start 72 = .ok (.aload_n 0, 1) := by decide +kernel
theorem dX10_start_73 : decode cX10_start 73 = .ok (.invokevirtual 343, 3) := by decide +kernel
theorem dX10_start_76 : decode cX10_start 76 = .ok (.ireturn, 1) := by decide +kernel
theorem dX10_start_77 : decode cX10_start 77 = .ok (.iconst (-1), 1) := by decide +kernel
theorem dX10_start_78 : decode cX10_start 78 = .ok (.ireturn, 1) := by decide +kernel
theorem dX10_pace_0 : decode cX10_pace 0 = .ok (.aload_n 0, 1) := by decide +kernel
theorem dX10_pace_1 : decode cX10_pace 1 = .ok (.iconst 0, 1) := by decide +kernel
theorem dX10_pace_2 : decode cX10_pace 2 = .ok (.putfield 1, 3) := by decide +kernel
theorem dX10_pace_5 : decode cX10_pace 5 = .ok (.aload_n 0, 1) := by decide +kernel
theorem dX10_pace_6 : decode cX10_pace 6 = .ok (.invokevirtual 281, 3) := by decide +kernel
theorem dX10_pace_9 : decode cX10_pace 9 = .ok (.ifCond .eq 19, 3) := by decide +kernel
theorem dX10_pace_12 : decode cX10_pace 12 = .ok (.iload_n 1, 1) := by decide +kernel
theorem dX10_pace_13 : decode cX10_pace 13 = .ok (.iconst 0, 1) := by decide +kernel
theorem dX10_pace_14 : decode cX10_pace 14 = .ok (.aload_n 0, 1) := by decide +kernel
theorem dX10_pace_15 : decode cX10_pace 15 = .ok (.getfield 37, 3) := by decide +kernel
theorem dX10_pace_18 : decode cX10_pace 18 = .ok (.iconst 0, 1) := by decide +kernel
theorem dX10_pace_19 : decode cX10_pace 19 = .ok (.iaload, 1) := by decide +kernel
theorem dX10_pace_20 : decode cX10_pace 20 = .ok (.iconst 1, 1) := by decide +kernel
theorem dX10_pace_21 : decode cX10_pace 21 = .ok (.isub, 1) := by decide +kernel
theorem dX10_pace_22 : decode cX10_pace 22 = .ok (.invokestatic 211, 3) := by decide +kernel
theorem dX10_pace_25 : decode cX10_pace 25 = .ok (.ifCond .ne 5, 3) := by decide +kernel
theorem dX10_pace_28 : decode cX10_pace 28 = .ok (.iconst (-1), 1) := by decide +kernel
theorem dX10_pace_29 : decode cX10_pace 29 = .ok (.ireturn, 1) := by decide +kernel
theorem dX10_pace_30 : decode cX10_pace 30 = .ok (.aload_n 0, 1) := by decide +kernel
theorem dX10_pace_31 : decode cX10_pace 31 = .ok (.invokevirtual 340, 3) := by decide +kernel
theorem dX10_pace_34 : decode cX10_pace 34 = .ok (.aload_n 0, 1) := by decide +kernel
theorem dX10_pace_35 : decode cX10_pace 35 = .ok (.getfield 57, 3) := by decide +kernel
theorem dX10_pace_38 : decode cX10_pace 38 = .ok (.iload_n 1, 1) := by decide +kernel
theorem dX10_pace_39 : decode cX10_pace 39 = .ok (.iaload, 1) := by decide +kernel
theorem dX10_pace_40 : decode cX10_pace 40 = .ok (.ireturn, 1) := by decide +kernel
theorem dX10_jumps_0 : decode cX10_jumps 0 = .ok (.aload_n 0, 1) := by decide +kernel
theorem dX10_jumps_1 : decode cX10_jumps 1 = .ok (.iconst 0, 1) := by decide +kernel
theorem dX10_jumps_2 : decode cX10_jumps 2 = .ok (.putfield 1, 3) := by decide +kernel
theorem dX10_jumps_5 : decode cX10_jumps 5 = .ok (.aload_n 0, 1) := by decide +kernel
theorem dX10_jumps_6 : decode cX10_jumps 6 = .ok (.invokevirtual 281, 3) := by decide +kernel
theorem dX10_jumps_9 : decode cX10_jumps 9 = .ok (.ifCond .eq 12, 3) := by decide +kernel
theorem dX10_jumps_12 : decode cX10_jumps 12 = .ok (.iload_n 1, 1) := by decide +kernel
theorem dX10_jumps_13 : decode cX10_jumps 13 = .ok (.iconst 0, 1) := by decide +kernel
theorem dX10_jumps_14 : decode cX10_jumps 14 = .ok (.iconst 3, 1) := by decide +kernel
theorem dX10_jumps_15 : decode cX10_jumps 15 = .ok (.invokestatic 211, 3) := by decide +kernel
theorem dX10_jumps_18 : decode cX10_jumps 18 = .ok (.ifCond .ne 5, 3) := by decide +kernel
theorem dX10_jumps_21 : decode cX10_jumps 21 = .ok (.iconst (-1), 1) := by decide +kernel
theorem dX10_jumps_22 : decode cX10_jumps 22 = .ok (.ireturn, 1) := by decide +kernel
theorem dX10_jumps_23 : decode cX10_jumps 23 = .ok (.aload_n 0, 1) := by decide +kernel
theorem dX10_jumps_24 : decode cX10_jumps 24 = .ok (.invokevirtual 340, 3) := by decide +kernel
theorem dX10_jumps_27 : decode cX10_jumps 27 = .ok (.aload_n 0, 1) := by decide +kernel
theorem dX10_jumps_28 : decode cX10_jumps 28 = .ok (.getfield 60, 3) := by decide +kernel
theorem dX10_jumps_31 : decode cX10_jumps 31 = .ok (.iload_n 1, 1) := by decide +kernel
theorem dX10_jumps_32 : decode cX10_jumps 32 = .ok (.iaload, 1) := by decide +kernel
theorem dX10_jumps_33 : decode cX10_jumps 33 = .ok (.ireturn, 1) := by decide +kernel
theorem dX10_run_0 : decode cX10_run 0 = .ok (.aload_n 0, 1) := by decide +kernel
theorem dX10_run_1 : decode cX10_run 1 = .ok (.iconst 0, 1) := by decide +kernel
theorem dX10_run_2 : decode cX10_run 2 = .ok (.putfield 1, 3) := by decide +kernel
theorem dX10_run_5 : decode cX10_run 5 = .ok (.aload_n 0, 1) := by decide +kernel
theorem dX10_run_6 : decode cX10_run 6 = .ok (.invokevirtual 281, 3) := by decide +kernel
theorem dX10_run_9 : decode cX10_run 9 = .ok (.ifCond .ne 5, 3) := by decide +kernel
theorem dX10_run_12 : decode cX10_run 12 = .ok (.iconst (-1), 1) := by decide +kernel
theorem dX10_run_13 : decode cX10_run 13 = .ok (.ireturn, 1) := by decide +kernel
theorem dX10_run_14 : decode cX10_run 14 = .ok (.aload_n 0, 1) := by decide +kernel
theorem dX10_run_15 : decode cX10_run 15 = .ok (.invokevirtual 368, 3) := by decide +kernel
theorem dX10_run_18 : decode cX10_run 18 = .ok (.istore_n 2, 1) := by decide +kernel
theorem dX10_run_19 : decode cX10_run 19 = .ok (.iload_n 1, 1) := by decide +kernel
theorem dX10_run_20 : decode cX10_run 20 = .ok (.tableswitch 49 0 3 #[32, 34, 39, 44], 32) := by decide +kernel
theorem dX10_run_52 : decode cX10_run 52 = .ok (.iload_n 2, 1) := by decide +kernel
theorem dX10_run_53 : decode cX10_run 53 = .ok (.ireturn, 1) := by decide +kernel
theorem dX10_run_54 : decode cX10_run 54 = .ok (.aload_n 0, 1) := by decide +kernel
theorem dX10_run_55 : decode cX10_run 55 = .ok (.getfield 352, 3) := by decide +kernel
theorem dX10_run_58 : decode cX10_run 58 = .ok (.ireturn, 1) := by decide +kernel
theorem dX10_run_59 : decode cX10_run 59 = .ok (.aload_n 0, 1) := by decide +kernel
theorem dX10_run_60 : decode cX10_run 60 = .ok (.getfield 346, 3) := by decide +kernel
theorem dX10_run_63 : decode cX10_run 63 = .ok (.ireturn, 1) := by decide +kernel
theorem dX10_run_64 : decode cX10_run 64 = .ok (.aload_n 0, 1) := by decide +kernel
theorem dX10_run_65 : decode cX10_run 65 = .ok (.getfield 349, 3) := by decide +kernel
theorem dX10_run_68 : decode cX10_run 68 = .ok (.ireturn, 1) := by decide +kernel
theorem dX10_run_69 : decode cX10_run 69 = .ok (.iconst (-1), 1) := by decide +kernel
theorem dX10_run_70 : decode cX10_run 70 = .ok (.ireturn, 1) := by decide +kernel
theorem dX10_behind_0 : decode cX10_behind 0 = .ok (.aload_n 0, 1) := by decide +kernel
theorem dX10_behind_1 : decode cX10_behind 1 = .ok (.iconst 0, 1) := by decide +kernel
theorem dX10_behind_2 : decode cX10_behind 2 = .ok (.putfield 1, 3) := by decide +kernel
theorem dX10_behind_5 : decode cX10_behind 5 = .ok (.aload_n 0, 1) := by decide +kernel
theorem dX10_behind_6 : decode cX10_behind 6 = .ok (.invokevirtual 281, 3) := by decide +kernel
theorem dX10_behind_9 : decode cX10_behind 9 = .ok (.ifCond .ne 5, 3) := by decide +kernel
theorem dX10_behind_12 : decode cX10_behind 12 = .ok (.iconst (-1), 1) := by decide +kernel
theorem dX10_behind_13 : decode cX10_behind 13 = .ok (.ireturn, 1) := by decide +kernel
theorem dX10_behind_14 : decode cX10_behind 14 = .ok (.aload_n 0, 1) := by decide +kernel
theorem dX10_behind_15 : decode cX10_behind 15 = .ok (.invokevirtual 368, 3) := by decide +kernel
theorem dX10_behind_18 : decode cX10_behind 18 = .ok (.pop, 1) := by decide +kernel
theorem dX10_behind_19 : decode cX10_behind 19 = .ok (.iload_n 1, 1) := by decide +kernel
theorem dX10_behind_20 : decode cX10_behind 20 = .ok (.iconst 0, 1) := by decide +kernel
theorem dX10_behind_21 : decode cX10_behind 21 = .ok (.aload_n 0, 1) := by decide +kernel
theorem dX10_behind_22 : decode cX10_behind 22 = .ok (.getfield 346, 3) := by decide +kernel
theorem dX10_behind_25 : decode cX10_behind 25 = .ok (.iconst 1, 1) := by decide +kernel
theorem dX10_behind_26 : decode cX10_behind 26 = .ok (.isub, 1) := by decide +kernel
theorem dX10_behind_27 : decode cX10_behind 27 = .ok (.invokestatic 211, 3) := by decide +kernel
theorem dX10_behind_30 : decode cX10_behind 30 = .ok (.ifCond .eq 12, 3) := by decide +kernel
theorem dX10_behind_33 : decode cX10_behind 33 = .ok (.aload_n 0, 1) := by decide +kernel
theorem dX10_behind_34 : decode cX10_behind 34 = .ok (.getfield 63, 3) := by decide +kernel
theorem dX10_behind_37 : decode cX10_behind 37 = .ok (.iload_n 1, 1) := by decide +kernel
theorem dX10_behind_38 : decode cX10_behind 38 = .ok (.iaload, 1) := by decide +kernel
theorem dX10_behind_39 : decode cX10_behind 39 = .ok (.goto 4, 3) := by decide +kernel
theorem dX10_behind_42 : decode cX10_behind 42 = .ok (.iconst (-1), 1) := by decide +kernel
theorem dX10_behind_43 : decode cX10_behind 43 = .ok (.ireturn, 1) := by decide +kernel
theorem dX10_keeps_0 : decode cX10_keeps 0 = .ok (.aload_n 0, 1) := by decide +kernel
theorem dX10_keeps_1 : decode cX10_keeps 1 = .ok (.getfield 263, 3) := by decide +kernel
theorem dX10_keeps_4 : decode cX10_keeps 4 = .ok (.bipush 8, 2) := by decide +kernel
theorem dX10_keeps_6 : decode cX10_keeps 6 = .ok (.if_icmp .ne 39, 3) := by decide +kernel
theorem dX10_keeps_9 : decode cX10_keeps 9 = .ok (.iconst 0, 1) := by decide +kernel
theorem dX10_keeps_10 : decode cX10_keeps 10 = .ok (.istore_n 1, 1) := by decide +kernel
theorem dX10_keeps_11 : decode cX10_keeps 11 = .ok (.iload_n 1, 1) := by decide +kernel
theorem dX10_keeps_12 : decode cX10_keeps 12 = .ok (.sipush 168, 3) := by decide +kernel
theorem dX10_keeps_15 : decode cX10_keeps 15 = .ok (.if_icmp .ge 24, 3) := by decide +kernel
theorem dX10_keeps_18 : decode cX10_keeps 18 = .ok (.aload_n 0, 1) := by decide +kernel
theorem dX10_keeps_19 : decode cX10_keeps 19 = .ok (.getfield 69, 3) := by decide +kernel
theorem dX10_keeps_22 : decode cX10_keeps 22 = .ok (.iload_n 1, 1) := by decide +kernel
theorem dX10_keeps_23 : decode cX10_keeps 23 = .ok (.aload_n 0, 1) := by decide +kernel
theorem dX10_keeps_24 : decode cX10_keeps 24 = .ok (.getfield 69, 3) := by decide +kernel
theorem dX10_keeps_27 : decode cX10_keeps 27 = .ok (.iload_n 1, 1) := by decide +kernel
theorem dX10_keeps_28 : decode cX10_keeps 28 = .ok (.bipush 24, 2) := by decide +kernel
theorem dX10_keeps_30 : decode cX10_keeps 30 = .ok (.iadd, 1) := by decide +kernel
theorem dX10_keeps_31 : decode cX10_keeps 31 = .ok (.iaload, 1) := by decide +kernel
theorem dX10_keeps_32 : decode cX10_keeps 32 = .ok (.iastore, 1) := by decide +kernel
theorem dX10_keeps_33 : decode cX10_keeps 33 = .ok (.iinc 1 1, 3) := by decide +kernel
theorem dX10_keeps_36 : decode cX10_keeps 36 = .ok (.goto (-25), 3) := by decide +kernel
theorem dX10_keeps_39 : decode cX10_keeps 39 = .ok (.aload_n 0, 1) := by decide +kernel
theorem dX10_keeps_40 : decode cX10_keeps 40 = .ok (.bipush 7, 2) := by decide +kernel
theorem dX10_keeps_42 : decode cX10_keeps 42 = .ok (.putfield 263, 3) := by decide +kernel
theorem dX10_keeps_45 : decode cX10_keeps 45 = .ok (.iconst 0, 1) := by decide +kernel
theorem dX10_keeps_46 : decode cX10_keeps 46 = .ok (.istore_n 1, 1) := by decide +kernel
theorem dX10_keeps_47 : decode cX10_keeps 47 = .ok (.iload_n 1, 1) := by decide +kernel
theorem dX10_keeps_48 : decode cX10_keeps 48 = .ok (.bipush 24, 2) := by decide +kernel
theorem dX10_keeps_50 : decode cX10_keeps 50 = .ok (.if_icmp .ge 32, 3) := by decide +kernel
theorem dX10_keeps_53 : decode cX10_keeps 53 = .ok (.aload_n 0, 1) := by decide +kernel
theorem dX10_keeps_54 : decode cX10_keeps 54 = .ok (.getfield 69, 3) := by decide +kernel
theorem dX10_keeps_57 : decode cX10_keeps 57 = .ok (.bipush 24, 2) := by decide +kernel
theorem dX10_keeps_59 : decode cX10_keeps 59 = .ok (.aload_n 0, 1) := by decide +kernel
theorem dX10_keeps_60 : decode cX10_keeps 60 = .ok (.getfield 263, 3) := by decide +kernel
theorem dX10_keeps_63 : decode cX10_keeps 63 = .ok (.imul, 1) := by decide +kernel
theorem dX10_keeps_64 : decode cX10_keeps 64 = .ok (.iload_n 1, 1) := by decide +kernel
theorem dX10_keeps_65 : decode cX10_keeps 65 = .ok (.iadd, 1) := by decide +kernel
theorem dX10_keeps_66 : decode cX10_keeps 66 = .ok (.aload_n 0, 1) := by decide +kernel
theorem dX10_keeps_67 : decode cX10_keeps 67 = .ok (.getfield 37, 3) := by decide +kernel
theorem dX10_keeps_70 : decode cX10_keeps 70 = .ok (.bipush 104, 2) := by decide +kernel
theorem dX10_keeps_72 : decode cX10_keeps 72 = .ok (.iload_n 1, 1) := by decide +kernel
theorem dX10_keeps_73 : decode cX10_keeps 73 = .ok (.iadd, 1) := by decide +kernel
theorem dX10_keeps_74 : decode cX10_keeps 74 = .ok (.iaload, 1) := by decide +kernel
theorem dX10_keeps_75 : decode cX10_keeps 75 = .ok (.iastore, 1) := by decide +kernel
theorem dX10_keeps_76 : decode cX10_keeps 76 = .ok (.iinc 1 1, 3) := by decide +kernel
theorem dX10_keeps_79 : decode cX10_keeps 79 = .ok (.goto (-32), 3) := by decide +kernel
theorem dX10_keeps_82 : decode cX10_keeps 82 = .ok (.aload_n 0, 1) := by decide +kernel
theorem dX10_keeps_83 : decode cX10_keeps 83 = .ok (.dup, 1) := by decide +kernel
theorem dX10_keeps_84 : decode cX10_keeps 84 = .ok (.getfield 263, 3) := by decide +kernel
theorem dX10_keeps_87 : decode cX10_keeps 87 = .ok (.iconst 1, 1) := by decide +kernel
theorem dX10_keeps_88 : decode cX10_keeps 88 = .ok (.iadd, 1) := by decide +kernel
theorem dX10_keeps_89 : decode cX10_keeps 89 = .ok (.putfield 263, 3) := by decide +kernel
theorem dX10_keeps_92 : decode cX10_keeps 92 = .ok (.return_, 1) := by decide +kernel
theorem dX10_undo_0 : decode cX10_undo 0 = .ok (.aload_n 0, 1) := by decide +kernel
theorem dX10_undo_1 : decode cX10_undo 1 = .ok (.iconst 0, 1) := by decide +kernel
theorem dX10_undo_2 : decode cX10_undo 2 = .ok (.putfield 1, 3) := by decide +kernel
theorem dX10_undo_5 : decode cX10_undo 5 = .ok (.aload_n 0, 1) := by decide +kernel
theorem dX10_undo_6 : decode cX10_undo 6 = .ok (.getfield 263, 3) := by decide +kernel
theorem dX10_undo_9 : decode cX10_undo 9 = .ok (.ifCond .ne 5, 3) := by decide +kernel
theorem dX10_undo_12 : decode cX10_undo 12 = .ok (.iconst (-1), 1) := by decide +kernel
theorem dX10_undo_13 : decode cX10_undo 13 = .ok (.ireturn, 1) := by decide +kernel
theorem dX10_undo_14 : decode cX10_undo 14 = .ok (.aload_n 0, 1) := by decide +kernel
theorem dX10_undo_15 : decode cX10_undo 15 = .ok (.dup, 1) := by decide +kernel
theorem dX10_undo_16 : decode cX10_undo 16 = .ok (.getfield 263, 3) := by decide +kernel
theorem dX10_undo_19 : decode cX10_undo 19 = .ok (.iconst 1, 1) := by decide +kernel
theorem dX10_undo_20 : decode cX10_undo 20 = .ok (.isub, 1) := by decide +kernel
theorem dX10_undo_21 : decode cX10_undo 21 = .ok (.putfield 263, 3) := by decide +kernel
theorem dX10_undo_24 : decode cX10_undo 24 = .ok (.iconst 0, 1) := by decide +kernel
theorem dX10_undo_25 : decode cX10_undo 25 = .ok (.istore_n 1, 1) := by decide +kernel
theorem dX10_undo_26 : decode cX10_undo 26 = .ok (.iload_n 1, 1) := by decide +kernel
theorem dX10_undo_27 : decode cX10_undo 27 = .ok (.bipush 24, 2) := by decide +kernel
theorem dX10_undo_29 : decode cX10_undo 29 = .ok (.if_icmp .ge 32, 3) := by decide +kernel
theorem dX10_undo_32 : decode cX10_undo 32 = .ok (.aload_n 0, 1) := by decide +kernel
theorem dX10_undo_33 : decode cX10_undo 33 = .ok (.getfield 37, 3) := by decide +kernel
theorem dX10_undo_36 : decode cX10_undo 36 = .ok (.bipush 104, 2) := by decide +kernel
theorem dX10_undo_38 : decode cX10_undo 38 = .ok (.iload_n 1, 1) := by decide +kernel
theorem dX10_undo_39 : decode cX10_undo 39 = .ok (.iadd, 1) := by decide +kernel
theorem dX10_undo_40 : decode cX10_undo 40 = .ok (.aload_n 0, 1) := by decide +kernel
theorem dX10_undo_41 : decode cX10_undo 41 = .ok (.getfield 69, 3) := by decide +kernel
theorem dX10_undo_44 : decode cX10_undo 44 = .ok (.bipush 24, 2) := by decide +kernel
theorem dX10_undo_46 : decode cX10_undo 46 = .ok (.aload_n 0, 1) := by decide +kernel
theorem dX10_undo_47 : decode cX10_undo 47 = .ok (.getfield 263, 3) := by decide +kernel
theorem dX10_undo_50 : decode cX10_undo 50 = .ok (.imul, 1) := by decide +kernel
theorem dX10_undo_51 : decode cX10_undo 51 = .ok (.iload_n 1, 1) := by decide +kernel
theorem dX10_undo_52 : decode cX10_undo 52 = .ok (.iadd, 1) := by decide +kernel
theorem dX10_undo_53 : decode cX10_undo 53 = .ok (.iaload, 1) := by decide +kernel
theorem dX10_undo_54 : decode cX10_undo 54 = .ok (.iastore, 1) := by decide +kernel
theorem dX10_undo_55 : decode cX10_undo 55 = .ok (.iinc 1 1, 3) := by decide +kernel
theorem dX10_undo_58 : decode cX10_undo 58 = .ok (.goto (-32), 3) := by decide +kernel
theorem dX10_undo_61 : decode cX10_undo 61 = .ok (.aload_n 0, 1) := by decide +kernel
theorem dX10_undo_62 : decode cX10_undo 62 = .ok (.getfield 263, 3) := by decide +kernel
theorem dX10_undo_65 : decode cX10_undo 65 = .ok (.ireturn, 1) := by decide +kernel
theorem dX10_tries_0 : decode cX10_tries 0 = .ok (.iconst 0, 1) := by decide +kernel
theorem dX10_tries_1 : decode cX10_tries 1 = .ok (.istore_n 1, 1) := by decide +kernel
theorem dX10_tries_2 : decode cX10_tries 2 = .ok (.iload_n 1, 1) := by decide +kernel
theorem dX10_tries_3 : decode cX10_tries 3 = .ok (.bipush 24, 2) := by decide +kernel
theorem dX10_tries_5 : decode cX10_tries 5 = .ok (.if_icmp .ge 24, 3) := by decide +kernel
theorem dX10_tries_8 : decode cX10_tries 8 = .ok (.aload_n 0, 1) := by decide +kernel
theorem dX10_tries_9 : decode cX10_tries 9 = .ok (.getfield 72, 3) := by decide +kernel
theorem dX10_tries_12 : decode cX10_tries 12 = .ok (.iload_n 1, 1) := by decide +kernel
theorem dX10_tries_13 : decode cX10_tries 13 = .ok (.aload_n 0, 1) := by decide +kernel
theorem dX10_tries_14 : decode cX10_tries 14 = .ok (.getfield 37, 3) := by decide +kernel
theorem dX10_tries_17 : decode cX10_tries 17 = .ok (.bipush 104, 2) := by decide +kernel
theorem dX10_tries_19 : decode cX10_tries 19 = .ok (.iload_n 1, 1) := by decide +kernel
theorem dX10_tries_20 : decode cX10_tries 20 = .ok (.iadd, 1) := by decide +kernel
theorem dX10_tries_21 : decode cX10_tries 21 = .ok (.iaload, 1) := by decide +kernel
theorem dX10_tries_22 : decode cX10_tries 22 = .ok (.iastore, 1) := by decide +kernel
theorem dX10_tries_23 : decode cX10_tries 23 = .ok (.iinc 1 1, 3) := by decide +kernel
theorem dX10_tries_26 : decode cX10_tries 26 = .ok (.goto (-24), 3) := by decide +kernel
theorem dX10_tries_29 : decode cX10_tries 29 = .ok (.return_, 1) := by decide +kernel
theorem dX10_back_0 : decode cX10_back 0 = .ok (.iconst 0, 1) := by decide +kernel
theorem dX10_back_1 : decode cX10_back 1 = .ok (.istore_n 1, 1) := by decide +kernel
theorem dX10_back_2 : decode cX10_back 2 = .ok (.iload_n 1, 1) := by decide +kernel
theorem dX10_back_3 : decode cX10_back 3 = .ok (.bipush 24, 2) := by decide +kernel
theorem dX10_back_5 : decode cX10_back 5 = .ok (.if_icmp .ge 24, 3) := by decide +kernel
theorem dX10_back_8 : decode cX10_back 8 = .ok (.aload_n 0, 1) := by decide +kernel
theorem dX10_back_9 : decode cX10_back 9 = .ok (.getfield 37, 3) := by decide +kernel
theorem dX10_back_12 : decode cX10_back 12 = .ok (.bipush 104, 2) := by decide +kernel
theorem dX10_back_14 : decode cX10_back 14 = .ok (.iload_n 1, 1) := by decide +kernel
theorem dX10_back_15 : decode cX10_back 15 = .ok (.iadd, 1) := by decide +kernel
theorem dX10_back_16 : decode cX10_back 16 = .ok (.aload_n 0, 1) := by decide +kernel
theorem dX10_back_17 : decode cX10_back 17 = .ok (.getfield 72, 3) := by decide +kernel
theorem dX10_back_20 : decode cX10_back 20 = .ok (.iload_n 1, 1) := by decide +kernel
theorem dX10_back_21 : decode cX10_back 21 = .ok (.iaload, 1) := by decide +kernel
theorem dX10_back_22 : decode cX10_back 22 = .ok (.iastore, 1) := by decide +kernel
theorem dX10_back_23 : decode cX10_back 23 = .ok (.iinc 1 1, 3) := by decide +kernel
theorem dX10_back_26 : decode cX10_back 26 = .ok (.goto (-24), 3) := by decide +kernel
theorem dX10_back_29 : decode cX10_back 29 = .ok (.return_, 1) := by decide +kernel
theorem dX10_becomes_0 : decode cX10_becomes 0 = .ok (.aload_n 0, 1) := by decide +kernel
theorem dX10_becomes_1 : decode cX10_becomes 1 = .ok (.getfield 37, 3) := by decide +kernel
theorem dX10_becomes_4 : decode cX10_becomes 4 = .ok (.iload_n 1, 1) := by decide +kernel
theorem dX10_becomes_5 : decode cX10_becomes 5 = .ok (.iaload, 1) := by decide +kernel
theorem dX10_becomes_6 : decode cX10_becomes 6 = .ok (.iload_n 2, 1) := by decide +kernel
theorem dX10_becomes_7 : decode cX10_becomes 7 = .ok (.if_icmp .ne 5, 3) := by decide +kernel
theorem dX10_becomes_10 : decode cX10_becomes 10 = .ok (.iconst 0, 1) := by decide +kernel
theorem dX10_becomes_11 : decode cX10_becomes 11 = .ok (.ireturn, 1) := by decide +kernel
theorem dX10_becomes_12 : decode cX10_becomes 12 = .ok (.aload_n 0, 1) := by decide +kernel
theorem dX10_becomes_13 : decode cX10_becomes 13 = .ok (.invokevirtual 371, 3) := by decide +kernel
theorem dX10_becomes_16 : decode cX10_becomes 16 = .ok (.aload_n 0, 1) := by decide +kernel
theorem dX10_becomes_17 : decode cX10_becomes 17 = .ok (.getfield 37, 3) := by decide +kernel
theorem dX10_becomes_20 : decode cX10_becomes 20 = .ok (.iload_n 1, 1) := by decide +kernel
theorem dX10_becomes_21 : decode cX10_becomes 21 = .ok (.iload_n 2, 1) := by decide +kernel
theorem dX10_becomes_22 : decode cX10_becomes 22 = .ok (.iastore, 1) := by decide +kernel
theorem dX10_becomes_23 : decode cX10_becomes 23 = .ok (.iconst 1, 1) := by decide +kernel
theorem dX10_becomes_24 : decode cX10_becomes 24 = .ok (.ireturn, 1) := by decide +kernel
theorem dX10_jump_0 : decode cX10_jump 0 = .ok (.aload_n 0, 1) := by decide +kernel
theorem dX10_jump_1 : decode cX10_jump 1 = .ok (.iconst 0, 1) := by decide +kernel
theorem dX10_jump_2 : decode cX10_jump 2 = .ok (.putfield 1, 3) := by decide +kernel
theorem dX10_jump_5 : decode cX10_jump 5 = .ok (.aload_n 0, 1) := by decide +kernel
theorem dX10_jump_6 : decode cX10_jump 6 = .ok (.invokevirtual 281, 3) := by decide +kernel
theorem dX10_jump_9 : decode cX10_jump 9 = .ok (.ifCond .eq 44, 3) := by decide +kernel
theorem dX10_jump_12 : decode cX10_jump 12 = .ok (.iload_n 1, 1) := by decide +kernel
theorem dX10_jump_13 : decode cX10_jump 13 = .ok (.iconst 0, 1) := by decide +kernel
theorem dX10_jump_14 : decode cX10_jump 14 = .ok (.iconst 3, 1) := by decide +kernel
theorem dX10_jump_15 : decode cX10_jump 15 = .ok (.invokestatic 211, 3) := by decide +kernel
theorem dX10_jump_18 : decode cX10_jump 18 = .ok (.ifCond .eq 35, 3) := by decide +kernel
theorem dX10_jump_21 : decode cX10_jump 21 = .ok (.iload_n 2, 1) := by decide +kernel
theorem dX10_jump_22 : decode cX10_jump 22 = .ok (.iconst 0, 1) := by decide +kernel
theorem dX10_jump_23 : decode cX10_jump 23 = .ok (.aload_n 0, 1) := by decide +kernel
theorem dX10_jump_24 : decode cX10_jump 24 = .ok (.getfield 37, 3) := by decide +kernel
theorem dX10_jump_27 : decode cX10_jump 27 = .ok (.iconst 0, 1) := by decide +kernel
theorem dX10_jump_28 : decode cX10_jump 28 = .ok (.iaload, 1) := by decide +kernel
theorem dX10_jump_29 : decode cX10_jump 29 = .ok (.iconst 1, 1) := by decide +kernel
theorem dX10_jump_30 : decode cX10_jump 30 = .ok (.isub, 1) := by decide +kernel
theorem dX10_jump_31 : decode cX10_jump 31 = .ok (.invokestatic 211, 3) := by decide +kernel
theorem dX10_jump_34 : decode cX10_jump 34 = .ok (.ifCond .eq 19, 3) := by decide +kernel
theorem dX10_jump_37 : decode cX10_jump 37 = .ok (.aload_n 0, 1) := by decide +kernel
theorem dX10_jump_38 : decode cX10_jump 38 = .ok (.bipush 109, 2) := by decide +kernel
theorem dX10_jump_40 : decode cX10_jump 40 = .ok (.iload_n 1, 1) := by decide +kernel
theorem dX10_jump_41 : decode cX10_jump 41 = .ok (.iadd, 1) := by decide +kernel
theorem dX10_jump_42 : decode cX10_jump 42 = .ok (.iload_n 2, 1) := by decide +kernel
theorem dX10_jump_43 : decode cX10_jump 43 = .ok (.invokevirtual 374, 3) := by decide +kernel
theorem dX10_jump_46 : decode cX10_jump 46 = .ok (.ifCond .eq 7, 3) := by decide +kernel
theorem dX10_jump_49 : decode cX10_jump 49 = .ok (.iconst 1, 1) := by decide +kernel
theorem dX10_jump_50 : decode cX10_jump 50 = .ok (.goto 4, 3) := by decide +kernel
theorem dX10_jump_53 : decode cX10_jump 53 = .ok (.iconst 0, 1) := by decide +kernel
theorem dX10_jump_54 : decode cX10_jump 54 = .ok (.ireturn, 1) := by decide +kernel
theorem dX10_high_0 : decode cX10_high 0 = .ok (.aload_n 0, 1) := by decide +kernel
theorem dX10_high_1 : decode cX10_high 1 = .ok (.iconst 0, 1) := by decide +kernel
theorem dX10_high_2 : decode cX10_high 2 = .ok (.putfield 1, 3) := by decide +kernel
theorem dX10_high_5 : decode cX10_high 5 = .ok (.aload_n 0, 1) := by decide +kernel
theorem dX10_high_6 : decode cX10_high 6 = .ok (.iload_n 1, 1) := by decide +kernel
theorem dX10_high_7 : decode cX10_high 7 = .ok (.invokevirtual 292, 3) := by decide +kernel
theorem dX10_high_10 : decode cX10_high 10 = .ok (.ifCond .eq 29, 3) := by decide +kernel
theorem dX10_high_13 : decode cX10_high 13 = .ok (.iload_n 2, 1) := by decide +kernel
theorem dX10_high_14 : decode cX10_high 14 = .ok (.iconst 0, 1) := by decide +kernel
theorem dX10_high_15 : decode cX10_high 15 = .ok (.bipush 9, 2) := by decide +kernel
theorem dX10_high_17 : decode cX10_high 17 = .ok (.invokestatic 211, 3) := by decide +kernel
theorem dX10_high_20 : decode cX10_high 20 = .ok (.ifCond .eq 19, 3) := by decide +kernel
theorem dX10_high_23 : decode cX10_high 23 = .ok (.aload_n 0, 1) := by decide +kernel
theorem dX10_high_24 : decode cX10_high 24 = .ok (.bipush 116, 2) := by decide +kernel
theorem dX10_high_26 : decode cX10_high 26 = .ok (.iload_n 1, 1) := by decide +kernel
theorem dX10_high_27 : decode cX10_high 27 = .ok (.iadd, 1) := by decide +kernel
theorem dX10_high_28 : decode cX10_high 28 = .ok (.iload_n 2, 1) := by decide +kernel
theorem dX10_high_29 : decode cX10_high 29 = .ok (.invokevirtual 374, 3) := by decide +kernel
theorem dX10_high_32 : decode cX10_high 32 = .ok (.ifCond .eq 7, 3) := by decide +kernel
theorem dX10_high_35 : decode cX10_high 35 = .ok (.iconst 1, 1) := by decide +kernel
theorem dX10_high_36 : decode cX10_high 36 = .ok (.goto 4, 3) := by decide +kernel
theorem dX10_high_39 : decode cX10_high 39 = .ok (.iconst 0, 1) := by decide +kernel
theorem dX10_high_40 : decode cX10_high 40 = .ok (.ireturn, 1) := by decide +kernel
theorem dX10_set_0 : decode cX10_set 0 = .ok (.aload_n 0, 1) := by decide +kernel
theorem dX10_set_1 : decode cX10_set 1 = .ok (.iconst 0, 1) := by decide +kernel
theorem dX10_set_2 : decode cX10_set 2 = .ok (.putfield 1, 3) := by decide +kernel
theorem dX10_set_5 : decode cX10_set 5 = .ok (.iload_n 1, 1) := by decide +kernel
theorem dX10_set_6 : decode cX10_set 6 = .ok (.ifCond .ne 29, 3) := by decide +kernel
theorem dX10_set_9 : decode cX10_set 9 = .ok (.iload_n 2, 1) := by decide +kernel
theorem dX10_set_10 : decode cX10_set 10 = .ok (.iconst 0, 1) := by decide +kernel
theorem dX10_set_11 : decode cX10_set 11 = .ok (.bipush 99, 2) := by decide +kernel
theorem dX10_set_13 : decode cX10_set 13 = .ok (.invokestatic 211, 3) := by decide +kernel
theorem dX10_set_16 : decode cX10_set 16 = .ok (.ifCond .eq 17, 3) := by decide +kernel
theorem dX10_set_19 : decode cX10_set 19 = .ok (.aload_n 0, 1) := by decide +kernel
theorem dX10_set_20 : decode cX10_set 20 = .ok (.bipush 113, 2) := by decide +kernel
theorem dX10_set_22 : decode cX10_set 22 = .ok (.iload_n 2, 1) := by decide +kernel
theorem dX10_set_23 : decode cX10_set 23 = .ok (.invokevirtual 374, 3) := by decide +kernel
theorem dX10_set_26 : decode cX10_set 26 = .ok (.ifCond .eq 7, 3) := by decide +kernel
theorem dX10_set_29 : decode cX10_set 29 = .ok (.iconst 1, 1) := by decide +kernel
theorem dX10_set_30 : decode cX10_set 30 = .ok (.goto 4, 3) := by decide +kernel
theorem dX10_set_33 : decode cX10_set 33 = .ok (.iconst 0, 1) := by decide +kernel
theorem dX10_set_34 : decode cX10_set 34 = .ok (.ireturn, 1) := by decide +kernel
theorem dX10_set_35 : decode cX10_set 35 = .ok (.iload_n 1, 1) := by decide +kernel
theorem dX10_set_36 : decode cX10_set 36 = .ok (.iconst 1, 1) := by decide +kernel
theorem dX10_set_37 : decode cX10_set 37 = .ok (.if_icmp .ne 27, 3) := by decide +kernel
theorem dX10_set_40 : decode cX10_set 40 = .ok (.aload_n 0, 1) := by decide +kernel
theorem dX10_set_41 : decode cX10_set 41 = .ok (.iload_n 2, 1) := by decide +kernel
theorem dX10_set_42 : decode cX10_set 42 = .ok (.invokevirtual 298, 3) := by decide +kernel
theorem dX10_set_45 : decode cX10_set 45 = .ok (.ifCond .eq 17, 3) := by decide +kernel
theorem dX10_set_48 : decode cX10_set 48 = .ok (.aload_n 0, 1) := by decide +kernel
theorem dX10_set_49 : decode cX10_set 49 = .ok (.bipush 114, 2) := by decide +kernel
theorem dX10_set_51 : decode cX10_set 51 = .ok (.iload_n 2, 1) := by decide +kernel
theorem dX10_set_52 : decode cX10_set 52 = .ok (.invokevirtual 374, 3) := by decide +kernel
theorem dX10_set_55 : decode cX10_set 55 = .ok (.ifCond .eq 7, 3) := by decide +kernel
theorem dX10_set_58 : decode cX10_set 58 = .ok (.iconst 1, 1) := by decide +kernel
theorem dX10_set_59 : decode cX10_set 59 = .ok (.goto 4, 3) := by decide +kernel
theorem dX10_set_62 : decode cX10_set 62 = .ok (.iconst 0, 1) := by decide +kernel
theorem dX10_set_63 : decode cX10_set 63 = .ok (.ireturn, 1) := by decide +kernel
theorem dX10_set_64 : decode cX10_set 64 = .ok (.iload_n 1, 1) := by decide +kernel
theorem dX10_set_65 : decode cX10_set 65 = .ok (.iconst 2, 1) := by decide +kernel
theorem dX10_set_66 : decode cX10_set 66 = .ok (.if_icmp .ne 27, 3) := by decide +kernel
theorem dX10_set_69 : decode cX10_set 69 = .ok (.iload_n 2, 1) := by decide +kernel
theorem dX10_set_70 : decode cX10_set 70 = .ok (.iconst 1, 1) := by decide +kernel
theorem dX10_set_71 : decode cX10_set 71 = .ok (.bipush 60, 2) := by decide +kernel
theorem dX10_set_73 : decode cX10_set 73 = .ok (.invokestatic 211, 3) := by decide +kernel
theorem dX10_set_76 : decode cX10_set 76 = .ok (.ifCond .eq 17, 3) := by decide +kernel
theorem dX10_set_79 : decode cX10_set 79 = .ok (.aload_n 0, 1) := by decide +kernel
theorem dX10_set_80 : decode cX10_set 80 = .ok (.bipush 115, 2) := by decide +kernel
theorem dX10_set_82 : decode cX10_set 82 = .ok (.iload_n 2, 1) := by decide +kernel
theorem dX10_set_83 : decode cX10_set 83 = .ok (.invokevirtual 374, 3) := by decide +kernel
theorem dX10_set_86 : decode cX10_set 86 = .ok (.ifCond .eq 7, 3) := by decide +kernel
theorem dX10_set_89 : decode cX10_set 89 = .ok (.iconst 1, 1) := by decide +kernel
theorem dX10_set_90 : decode cX10_set 90 = .ok (.goto 4, 3) := by decide +kernel
theorem dX10_set_93 : decode cX10_set 93 = .ok (.iconst 0, 1) := by decide +kernel
theorem dX10_set_94 : decode cX10_set 94 = .ok (.ireturn, 1) := by decide +kernel
theorem dX10_swap_0 : decode cX10_swap 0 = .ok (.aload_n 0, 1) := by decide +kernel
theorem dX10_swap_1 : decode cX10_swap 1 = .ok (.iconst 0, 1) := by decide +kernel
theorem dX10_swap_2 : decode cX10_swap 2 = .ok (.putfield 1, 3) := by decide +kernel
theorem dX10_swap_5 : decode cX10_swap 5 = .ok (.aload_n 0, 1) := by decide +kernel
theorem dX10_swap_6 : decode cX10_swap 6 = .ok (.invokevirtual 281, 3) := by decide +kernel
theorem dX10_swap_9 : decode cX10_swap 9 = .ok (.ifCond .eq 26, 3) := by decide +kernel
theorem dX10_swap_12 : decode cX10_swap 12 = .ok (.iload_n 1, 1) := by decide +kernel
theorem dX10_swap_13 : decode cX10_swap 13 = .ok (.iconst 0, 1) := by decide +kernel
theorem dX10_swap_14 : decode cX10_swap 14 = .ok (.iconst 3, 1) := by decide +kernel
theorem dX10_swap_15 : decode cX10_swap 15 = .ok (.invokestatic 211, 3) := by decide +kernel
theorem dX10_swap_18 : decode cX10_swap 18 = .ok (.ifCond .eq 17, 3) := by decide +kernel
theorem dX10_swap_21 : decode cX10_swap 21 = .ok (.iload_n 2, 1) := by decide +kernel
theorem dX10_swap_22 : decode cX10_swap 22 = .ok (.iconst 0, 1) := by decide +kernel
theorem dX10_swap_23 : decode cX10_swap 23 = .ok (.iconst 3, 1) := by decide +kernel
theorem dX10_swap_24 : decode cX10_swap 24 = .ok (.invokestatic 211, 3) := by decide +kernel
theorem dX10_swap_27 : decode cX10_swap 27 = .ok (.ifCond .eq 8, 3) := by decide +kernel
theorem dX10_swap_30 : decode cX10_swap 30 = .ok (.iload_n 1, 1) := by decide +kernel
theorem dX10_swap_31 : decode cX10_swap 31 = .ok (.iload_n 2, 1) := by decide +kernel
theorem dX10_swap_32 : decode cX10_swap 32 = .ok (.if_icmp .ne 5, 3) := by decide +kernel
theorem dX10_swap_35 : decode cX10_swap 35 = .ok (.iconst 0, 1) := by decide +kernel
theorem dX10_swap_36 : decode cX10_swap 36 = .ok (.ireturn, 1) := by decide +kernel
theorem dX10_swap_37 : decode cX10_swap 37 = .ok (.aload_n 0, 1) := by decide +kernel
theorem dX10_swap_38 : decode cX10_swap 38 = .ok (.invokevirtual 371, 3) := by decide +kernel
theorem dX10_swap_41 : decode cX10_swap 41 = .ok (.aload_n 0, 1) := by decide +kernel
theorem dX10_swap_42 : decode cX10_swap 42 = .ok (.getfield 37, 3) := by decide +kernel
theorem dX10_swap_45 : decode cX10_swap 45 = .ok (.bipush 105, 2) := by decide +kernel
theorem dX10_swap_47 : decode cX10_swap 47 = .ok (.iload_n 1, 1) := by decide +kernel
theorem dX10_swap_48 : decode cX10_swap 48 = .ok (.iadd, 1) := by decide +kernel
theorem dX10_swap_49 : decode cX10_swap 49 = .ok (.iaload, 1) := by decide +kernel
theorem dX10_swap_50 : decode cX10_swap 50 = .ok (.istore_n 3, 1) := by decide +kernel
theorem dX10_swap_51 : decode cX10_swap 51 = .ok (.aload_n 0, 1) := by decide +kernel
theorem dX10_swap_52 : decode cX10_swap 52 = .ok (.getfield 37, 3) := by decide +kernel
theorem dX10_swap_55 : decode cX10_swap 55 = .ok (.bipush 109, 2) := by decide +kernel
theorem dX10_swap_57 : decode cX10_swap 57 = .ok (.iload_n 1, 1) := by decide +kernel
theorem dX10_swap_58 : decode cX10_swap 58 = .ok (.iadd, 1) := by decide +kernel
theorem dX10_swap_59 : decode cX10_swap 59 = .ok (.iaload, 1) := by decide +kernel
theorem dX10_swap_60 : decode cX10_swap 60 = .ok (.istore 4, 2) := by decide +kernel
theorem dX10_swap_62 : decode cX10_swap 62 = .ok (.aload_n 0, 1) := by decide +kernel
theorem dX10_swap_63 : decode cX10_swap 63 = .ok (.getfield 37, 3) := by decide +kernel
theorem dX10_swap_66 : decode cX10_swap 66 = .ok (.bipush 105, 2) := by decide +kernel
theorem dX10_swap_68 : decode cX10_swap 68 = .ok (.iload_n 1, 1) := by decide +kernel
theorem dX10_swap_69 : decode cX10_swap 69 = .ok (.iadd, 1) := by decide +kernel
theorem dX10_swap_70 : decode cX10_swap 70 = .ok (.aload_n 0, 1) := by decide +kernel
theorem dX10_swap_71 : decode cX10_swap 71 = .ok (.getfield 37, 3) := by decide +kernel
theorem dX10_swap_74 : decode cX10_swap 74 = .ok (.bipush 105, 2) := by decide +kernel
theorem dX10_swap_76 : decode cX10_swap 76 = .ok (.iload_n 2, 1) := by decide +kernel
theorem dX10_swap_77 : decode cX10_swap 77 = .ok (.iadd, 1) := by decide +kernel
theorem dX10_swap_78 : decode cX10_swap 78 = .ok (.iaload, 1) := by decide +kernel
theorem dX10_swap_79 : decode cX10_swap 79 = .ok (.iastore, 1) := by decide +kernel
theorem dX10_swap_80 : decode cX10_swap 80 = .ok (.aload_n 0, 1) := by decide +kernel
theorem dX10_swap_81 : decode cX10_swap 81 = .ok (.getfield 37, 3) := by decide +kernel
theorem dX10_swap_84 : decode cX10_swap 84 = .ok (.bipush 109, 2) := by decide +kernel
theorem dX10_swap_86 : decode cX10_swap 86 = .ok (.iload_n 1, 1) := by decide +kernel
theorem dX10_swap_87 : decode cX10_swap 87 = .ok (.iadd, 1) := by decide +kernel
theorem dX10_swap_88 : decode cX10_swap 88 = .ok (.aload_n 0, 1) := by decide +kernel
theorem dX10_swap_89 : decode cX10_swap 89 = .ok (.getfield 37, 3) := by decide +kernel
theorem dX10_swap_92 : decode cX10_swap 92 = .ok (.bipush 109, 2) := by decide +kernel
theorem dX10_swap_94 : decode cX10_swap 94 = .ok (.iload_n 2, 1) := by decide +kernel
theorem dX10_swap_95 : decode cX10_swap 95 = .ok (.iadd, 1) := by decide +kernel
theorem dX10_swap_96 : decode cX10_swap 96 = .ok (.iaload, 1) := by decide +kernel
theorem dX10_swap_97 : decode cX10_swap 97 = .ok (.iastore, 1) := by decide +kernel
theorem dX10_swap_98 : decode cX10_swap 98 = .ok (.aload_n 0, 1) := by decide +kernel
theorem dX10_swap_99 : decode cX10_swap 99 = .ok (.getfield 37, 3) := by decide +kernel
theorem dX10_swap_102 : decode cX10_swap 102 = .ok (.bipush 105, 2) := by decide +kernel
theorem dX10_swap_104 : decode cX10_swap 104 = .ok (.iload_n 2, 1) := by decide +kernel
theorem dX10_swap_105 : decode cX10_swap 105 = .ok (.iadd, 1) := by decide +kernel
theorem dX10_swap_106 : decode cX10_swap 106 = .ok (.iload_n 3, 1) := by decide +kernel
theorem dX10_swap_107 : decode cX10_swap 107 = .ok (.iastore, 1) := by decide +kernel
theorem dX10_swap_108 : decode cX10_swap 108 = .ok (.aload_n 0, 1) := by decide +kernel
theorem dX10_swap_109 : decode cX10_swap 109 = .ok (.getfield 37, 3) := by decide +kernel
theorem dX10_swap_112 : decode cX10_swap 112 = .ok (.bipush 109, 2) := by decide +kernel
theorem dX10_swap_114 : decode cX10_swap 114 = .ok (.iload_n 2, 1) := by decide +kernel
theorem dX10_swap_115 : decode cX10_swap 115 = .ok (.iadd, 1) := by decide +kernel
theorem dX10_swap_116 : decode cX10_swap 116 = .ok (.iload 4, 2) := by decide +kernel
theorem dX10_swap_118 : decode cX10_swap 118 = .ok (.iastore, 1) := by decide +kernel
theorem dX10_swap_119 : decode cX10_swap 119 = .ok (.iconst 1, 1) := by decide +kernel
theorem dX10_swap_120 : decode cX10_swap 120 = .ok (.ireturn, 1) := by decide +kernel
theorem dX10_best_0 : decode cX10_best 0 = .ok (.aload_n 0, 1) := by decide +kernel
theorem dX10_best_1 : decode cX10_best 1 = .ok (.iconst 0, 1) := by decide +kernel
theorem dX10_best_2 : decode cX10_best 2 = .ok (.putfield 1, 3) := by decide +kernel
theorem dX10_best_5 : decode cX10_best 5 = .ok (.aload_n 0, 1) := by decide +kernel
theorem dX10_best_6 : decode cX10_best 6 = .ok (.invokevirtual 281, 3) := by decide +kernel
theorem dX10_best_9 : decode cX10_best 9 = .ok (.ifCond .ne 5, 3) := by decide +kernel
theorem dX10_best_12 : decode cX10_best 12 = .ok (.iconst (-1), 1) := by decide +kernel
theorem dX10_best_13 : decode cX10_best 13 = .ok (.ireturn, 1) := by decide +kernel
theorem dX10_best_14 : decode cX10_best 14 = .ok (.aload_n 0, 1) := by decide +kernel
theorem dX10_best_15 : decode cX10_best 15 = .ok (.invokevirtual 401, 3) := by decide +kernel
theorem dX10_best_18 : decode cX10_best 18 = .ok (.istore_n 1, 1) := by decide +kernel
theorem dX10_best_19 : decode cX10_best 19 = .ok (.iload_n 1, 1) := by decide +kernel
theorem dX10_best_20 : decode cX10_best 20 = .ok (.ldc_w 394, 3) := by decide +kernel
theorem dX10_best_23 : decode cX10_best 23 = .ok (.if_icmp .lt 5, 3) := by decide +kernel
theorem dX10_best_26 : decode cX10_best 26 = .ok (.iconst (-1), 1) := by decide +kernel
theorem dX10_best_27 : decode cX10_best 27 = .ok (.ireturn, 1) := by decide +kernel
theorem dX10_best_28 : decode cX10_best 28 = .ok (.iconst 0, 1) := by decide +kernel
theorem dX10_best_29 : decode cX10_best 29 = .ok (.iconst 0, 1) := by decide +kernel
theorem dX10_best_30 : decode cX10_best 30 = .ok (.iconst 0, 1) := by decide +kernel
theorem dX10_best_31 : decode cX10_best 31 = .ok (.bipush 30, 2) := by decide +kernel
theorem dX10_best_33 : decode cX10_best 33 = .ok (.invokestatic 390, 3) := by decide +kernel
theorem dX10_best_36 : decode cX10_best 36 = .ok (.istore_n 2, 1) := by decide +kernel
theorem dX10_best_37 : decode cX10_best 37 = .ok (.iconst 0, 1) := by decide +kernel
theorem dX10_best_38 : decode cX10_best 38 = .ok (.istore_n 3, 1) := by decide +kernel
theorem dX10_best_39 : decode cX10_best 39 = .ok (.iload_n 3, 1) := by decide +kernel
theorem dX10_best_40 : decode cX10_best 40 = .ok (.aload_n 0, 1) := by decide +kernel
theorem dX10_best_41 : decode cX10_best 41 = .ok (.getfield 37, 3) := by decide +kernel
theorem dX10_best_44 : decode cX10_best 44 = .ok (.iconst 0, 1) := by decide +kernel
theorem dX10_best_45 : decode cX10_best 45 = .ok (.iaload, 1) := by decide +kernel
theorem dX10_best_46 : decode cX10_best 46 = .ok (.if_icmp .ge 68, 3) := by decide +kernel
theorem dX10_best_49 : decode cX10_best 49 = .ok (.iconst 0, 1) := by decide +kernel
theorem dX10_best_50 : decode cX10_best 50 = .ok (.istore 4, 2) := by decide +kernel
theorem dX10_best_52 : decode cX10_best 52 = .ok (.aload_n 0, 1) := by decide +kernel
theorem dX10_best_53 : decode cX10_best 53 = .ok (.iload_n 3, 1) := by decide +kernel
theorem dX10_best_54 : decode cX10_best 54 = .ok (.iload_n 2, 1) := by decide +kernel
theorem dX10_best_55 : decode cX10_best 55 = .ok (.iload 4, 2) := by decide +kernel
theorem dX10_best_57 : decode cX10_best 57 = .ok (.invokevirtual 398, 3) := by decide +kernel
theorem dX10_best_60 : decode cX10_best 60 = .ok (.aload_n 0, 1) := by decide +kernel
theorem dX10_best_61 : decode cX10_best 61 = .ok (.getfield 76, 3) := by decide +kernel
theorem dX10_best_64 : decode cX10_best 64 = .ok (.sipush 7712, 3) := by decide +kernel
theorem dX10_best_67 : decode cX10_best 67 = .ok (.iload_n 3, 1) := by decide +kernel
theorem dX10_best_68 : decode cX10_best 68 = .ok (.imul, 1) := by decide +kernel
theorem dX10_best_69 : decode cX10_best 69 = .ok (.iload_n 2, 1) := by decide +kernel
theorem dX10_best_70 : decode cX10_best 70 = .ok (.iadd, 1) := by decide +kernel
theorem dX10_best_71 : decode cX10_best 71 = .ok (.iaload, 1) := by decide +kernel
theorem dX10_best_72 : decode cX10_best 72 = .ok (.if_icmp .eq 9, 3) := by decide +kernel
theorem dX10_best_75 : decode cX10_best 75 = .ok (.iinc 4 1, 3) := by decide +kernel
theorem dX10_best_78 : decode cX10_best 78 = .ok (.goto (-26), 3) := by decide +kernel
theorem dX10_best_81 : decode cX10_best 81 = .ok (.iload 4, 2) := by decide +kernel
theorem dX10_best_83 : decode cX10_best 83 = .ok (.ifCond .le 13, 3) := by decide +kernel
theorem dX10_best_86 : decode cX10_best 86 = .ok (.aload_n 0, 1) := by decide +kernel
theorem dX10_best_87 : decode cX10_best 87 = .ok (.getfield 79, 3) := by decide +kernel
theorem dX10_best_90 : decode cX10_best 90 = .ok (.iload 4, 2) := by decide +kernel
theorem dX10_best_92 : decode cX10_best 92 = .ok (.iconst 1, 1) := by decide +kernel
theorem dX10_best_93 : decode cX10_best 93 = .ok (.isub, 1) := by decide +kernel
theorem dX10_best_94 : decode cX10_best 94 = .ok (.iload_n 3, 1) := by decide +kernel
theorem dX10_best_95 : decode cX10_best 95 = .ok (.iastore, 1) := by decide +kernel
theorem dX10_best_96 : decode cX10_best 96 = .ok (.aload_n 0, 1) := by decide +kernel
theorem dX10_best_97 : decode cX10_best 97 = .ok (.getfield 89, 3) := by decide +kernel
theorem dX10_best_100 : decode cX10_best 100 = .ok (.iconst 5, 1) := by decide +kernel
theorem dX10_best_101 : decode cX10_best 101 = .ok (.iload_n 2, 1) := by decide +kernel
theorem dX10_best_102 : decode cX10_best 102 = .ok (.imul, 1) := by decide +kernel
theorem dX10_best_103 : decode cX10_best 103 = .ok (.iload 4, 2) := by decide +kernel
theorem dX10_best_105 : decode cX10_best 105 = .ok (.iadd, 1) := by decide +kernel
theorem dX10_best_106 : decode cX10_best 106 = .ok (.iaload, 1) := by decide +kernel
theorem dX10_best_107 : decode cX10_best 107 = .ok (.istore_n 2, 1) := by decide +kernel
theorem dX10_best_108 : decode cX10_best 108 = .ok (.iinc 3 1, 3) := by decide +kernel
theorem dX10_best_111 : decode cX10_best 111 = .ok (.goto (-72), 3) := by decide +kernel
theorem dX10_best_114 : decode cX10_best 114 = .ok (.iconst 0, 1) := by decide +kernel
theorem dX10_best_115 : decode cX10_best 115 = .ok (.istore_n 3, 1) := by decide +kernel
theorem dX10_best_116 : decode cX10_best 116 = .ok (.iload_n 3, 1) := by decide +kernel
theorem dX10_best_117 : decode cX10_best 117 = .ok (.iconst 4, 1) := by decide +kernel
theorem dX10_best_118 : decode cX10_best 118 = .ok (.if_icmp .ge 24, 3) := by decide +kernel
theorem dX10_best_121 : decode cX10_best 121 = .ok (.aload_n 0, 1) := by decide +kernel
theorem dX10_best_122 : decode cX10_best 122 = .ok (.getfield 82, 3) := by decide +kernel
theorem dX10_best_125 : decode cX10_best 125 = .ok (.iload_n 3, 1) := by decide +kernel
theorem dX10_best_126 : decode cX10_best 126 = .ok (.aload_n 0, 1) := by decide +kernel
theorem dX10_best_127 : decode cX10_best 127 = .ok (.getfield 37, 3) := by decide +kernel
theorem dX10_best_130 : decode cX10_best 130 = .ok (.bipush 105, 2) := by decide +kernel
theorem dX10_best_132 : decode cX10_best 132 = .ok (.iload_n 3, 1) := by decide +kernel
theorem dX10_best_133 : decode cX10_best 133 = .ok (.iadd, 1) := by decide +kernel
theorem dX10_best_134 : decode cX10_best 134 = .ok (.iaload, 1) := by decide +kernel
theorem dX10_best_135 : decode cX10_best 135 = .ok (.iastore, 1) := by decide +kernel
theorem dX10_best_136 : decode cX10_best 136 = .ok (.iinc 3 1, 3) := by decide +kernel
theorem dX10_best_139 : decode cX10_best 139 = .ok (.goto (-23), 3) := by decide +kernel
theorem dX10_best_142 : decode cX10_best 142 = .ok (.aload_n 0, 1) := by decide +kernel
theorem dX10_best_143 : decode cX10_best 143 = .ok (.aload_n 0, 1) := by decide +kernel
theorem dX10_best_144 : decode cX10_best 144 = .ok (.getfield 37, 3) := by decide +kernel
theorem dX10_best_147 : decode cX10_best 147 = .ok (.sipush 334, 3) := by decide +kernel
theorem dX10_best_150 : decode cX10_best 150 = .ok (.iaload, 1) := by decide +kernel
theorem dX10_best_151 : decode cX10_best 151 = .ok (.putfield 85, 3) := by decide +kernel
theorem dX10_best_154 : decode cX10_best 154 = .ok (.aload_n 0, 1) := by decide +kernel
theorem dX10_best_155 : decode cX10_best 155 = .ok (.iconst 1, 1) := by decide +kernel
theorem dX10_best_156 : decode cX10_best 156 = .ok (.putfield 404, 3) := by decide +kernel
theorem dX10_best_159 : decode cX10_best 159 = .ok (.iload_n 1, 1) := by decide +kernel
theorem dX10_best_160 : decode cX10_best 160 = .ok (.ireturn, 1) := by decide +kernel
theorem dX10_when_0 : decode cX10_when 0 = .ok (.aload_n 0, 1) := by decide +kernel
theorem dX10_when_1 : decode cX10_when 1 = .ok (.iconst 0, 1) := by decide +kernel
theorem dX10_when_2 : decode cX10_when 2 = .ok (.putfield 1, 3) := by decide +kernel
theorem dX10_when_5 : decode cX10_when 5 = .ok (.aload_n 0, 1) := by decide +kernel
theorem dX10_when_6 : decode cX10_when 6 = .ok (.getfield 404, 3) := by decide +kernel
theorem dX10_when_9 : decode cX10_when 9 = .ok (.ifCond .eq 21, 3) := by decide +kernel
theorem dX10_when_12 : decode cX10_when 12 = .ok (.iload_n 1, 1) := by decide +kernel
theorem dX10_when_13 : decode cX10_when 13 = .ok (.iconst 0, 1) := by decide +kernel
theorem dX10_when_14 : decode cX10_when 14 = .ok (.iconst 3, 1) := by decide +kernel
theorem dX10_when_15 : decode cX10_when 15 = .ok (.invokestatic 211, 3) := by decide +kernel
theorem dX10_when_18 : decode cX10_when 18 = .ok (.ifCond .eq 12, 3) := by decide +kernel
theorem dX10_when_21 : decode cX10_when 21 = .ok (.aload_n 0, 1) := by decide +kernel
theorem dX10_when_22 : decode cX10_when 22 = .ok (.getfield 79, 3) := by decide +kernel
theorem dX10_when_25 : decode cX10_when 25 = .ok (.iload_n 1, 1) := by decide +kernel
theorem dX10_when_26 : decode cX10_when 26 = .ok (.iaload, 1) := by decide +kernel
theorem dX10_when_27 : decode cX10_when 27 = .ok (.goto 4, 3) := by decide +kernel
theorem dX10_when_30 : decode cX10_when 30 = .ok (.iconst (-1), 1) := by decide +kernel
theorem dX10_when_31 : decode cX10_when 31 = .ok (.ireturn, 1) := by decide +kernel
theorem dX10_line_0 : decode cX10_line 0 = .ok (.aload_n 0, 1) := by decide +kernel
theorem dX10_line_1 : decode cX10_line 1 = .ok (.iconst 0, 1) := by decide +kernel
theorem dX10_line_2 : decode cX10_line 2 = .ok (.putfield 1, 3) := by decide +kernel
theorem dX10_line_5 : decode cX10_line 5 = .ok (.aload_n 0, 1) := by decide +kernel
theorem dX10_line_6 : decode cX10_line 6 = .ok (.invokevirtual 281, 3) := by decide +kernel
theorem dX10_line_9 : decode cX10_line 9 = .ok (.ifCond .ne 5, 3) := by decide +kernel
theorem dX10_line_12 : decode cX10_line 12 = .ok (.iconst (-1), 1) := by decide +kernel
theorem dX10_line_13 : decode cX10_line 13 = .ok (.ireturn, 1) := by decide +kernel
theorem dX10_line_14 : decode cX10_line 14 = .ok (.aload_n 0, 1) := by decide +kernel
theorem dX10_line_15 : decode cX10_line 15 = .ok (.invokevirtual 340, 3) := by decide +kernel
theorem dX10_line_18 : decode cX10_line 18 = .ok (.aload_n 0, 1) := by decide +kernel
theorem dX10_line_19 : decode cX10_line 19 = .ok (.invokevirtual 343, 3) := by decide +kernel
theorem dX10_line_22 : decode cX10_line 22 = .ok (.istore_n 1, 1) := by decide +kernel
theorem dX10_line_23 : decode cX10_line 23 = .ok (.iload_n 1, 1) := by decide +kernel
theorem dX10_line_24 : decode cX10_line 24 = .ok (.aload_n 0, 1) := by decide +kernel
theorem dX10_line_25 : decode cX10_line 25 = .ok (.getfield 37, 3) := by decide +kernel
theorem dX10_line_28 : decode cX10_line 28 = .ok (.iconst 2, 1) := by decide +kernel
theorem dX10_line_29 : decode cX10_line 29 = .ok (.iaload, 1) := by decide +kernel
theorem dX10_line_30 : decode cX10_line 30 = .ok (.if_icmp .le 5, 3) := by decide +kernel
theorem dX10_line_33 : decode cX10_line 33 = .ok (.iconst (-1), 1) := by decide +kernel
theorem dX10_line_34 : decode cX10_line 34 = .ok (.ireturn, 1) := by decide +kernel
theorem dX10_line_35 : decode cX10_line 35 = .ok (.aload_n 0, 1) := by decide +kernel
theorem dX10_line_36 : decode cX10_line 36 = .ok (.getfield 37, 3) := by decide +kernel
theorem dX10_line_39 : decode cX10_line 39 = .ok (.bipush 6, 2) := by decide +kernel
theorem dX10_line_41 : decode cX10_line 41 = .ok (.iaload, 1) := by decide +kernel
theorem dX10_line_42 : decode cX10_line 42 = .ok (.istore_n 2, 1) := by decide +kernel
theorem dX10_line_43 : decode cX10_line 43 = .ok (.iload_n 2, 1) := by decide +kernel
theorem dX10_line_44 : decode cX10_line 44 = .ok (.ifCond .lt 120, 3) := by decide +kernel
theorem dX10_line_47 : decode cX10_line 47 = .ok (.iconst 0, 1) := by decide +kernel
theorem dX10_line_48 : decode cX10_line 48 = .ok (.istore_n 3, 1) := by decide +kernel
theorem dX10_line_49 : decode cX10_line 49 = .ok (.iload_n 3, 1) := by decide +kernel
theorem dX10_line_50 : decode cX10_line 50 = .ok (.bipush 10, 2) := by decide +kernel
theorem dX10_line_52 : decode cX10_line 52 = .ok (.if_icmp .ge 106, 3) := by decide +kernel
theorem dX10_line_55 : decode cX10_line 55 = .ok (.bipush 10, 2) := by decide +kernel
theorem dX10_line_57 : decode cX10_line 57 = .ok (.istore 4, 2) := by decide +kernel
theorem dX10_line_59 : decode cX10_line 59 = .ok (.iload 4, 2) := by decide +kernel
theorem dX10_line_61 : decode cX10_line 61 = .ok (.sipush 250, 3) := by decide +kernel
theorem dX10_line_64 : decode cX10_line 64 = .ok (.if_icmp .gt 88, 3) := by decide +kernel
theorem dX10_line_67 : decode cX10_line 67 = .ok (.iload_n 2, 1) := by decide +kernel
theorem dX10_line_68 : decode cX10_line 68 = .ok (.aload_n 0, 1) := by decide +kernel
theorem dX10_line_69 : decode cX10_line 69 = .ok (.getfield 37, 3) := by decide +kernel
theorem dX10_line_72 : decode cX10_line 72 = .ok (.bipush 6, 2) := by decide +kernel
theorem dX10_line_74 : decode cX10_line 74 = .ok (.iaload, 1) := by decide +kernel
theorem dX10_line_75 : decode cX10_line 75 = .ok (.if_icmp .ne 7, 3) := by decide +kernel
theorem dX10_line_78 : decode cX10_line 78 = .ok (.iconst 0, 1) := by decide +kernel
theorem dX10_line_79 : decode cX10_line 79 = .ok (.goto 6, 3) := by decide +kernel
theorem dX10_line_82 : decode cX10_line 82 = .ok (.ldc_w 394, 3) := by decide +kernel
theorem dX10_line_85 : decode cX10_line 85 = .ok (.istore 5, 2) := by decide +kernel
theorem dX10_line_87 : decode cX10_line 87 = .ok (.iconst 0, 1) := by decide +kernel
theorem dX10_line_88 : decode cX10_line 88 = .ok (.istore 6, 2) := by decide +kernel
theorem dX10_line_90 : decode cX10_line 90 = .ok (.iload_n 2, 1) := by decide +kernel
theorem dX10_line_91 : decode cX10_line 91 = .ok (.aload_n 0, 1) := by decide +kernel
theorem dX10_line_92 : decode cX10_line 92 = .ok (.getfield 37, 3) := by decide +kernel
theorem dX10_line_95 : decode cX10_line 95 = .ok (.bipush 6, 2) := by decide +kernel
theorem dX10_line_97 : decode cX10_line 97 = .ok (.iaload, 1) := by decide +kernel
theorem dX10_line_98 : decode cX10_line 98 = .ok (.if_icmp .ge 34, 3) := by decide +kernel
theorem dX10_line_101 : decode cX10_line 101 = .ok (.iload 6, 2) := by decide +kernel
theorem dX10_line_103 : decode cX10_line 103 = .ok (.bipush 10, 2) := by decide +kernel
theorem dX10_line_105 : decode cX10_line 105 = .ok (.if_icmp .ge 27, 3) := by decide +kernel
theorem dX10_line_108 : decode cX10_line 108 = .ok (.iload 5, 2) := by decide +kernel
theorem dX10_line_110 : decode cX10_line 110 = .ok (.aload_n 0, 1) := by decide +kernel
theorem dX10_line_111 : decode cX10_line 111 = .ok (.iload_n 2, 1) := by decide +kernel
theorem dX10_line_112 : decode cX10_line 112 = .ok (.iload_n 3, 1) := by decide +kernel
theorem dX10_line_113 : decode cX10_line 113 = .ok (.iload 4, 2) := by decide +kernel
theorem dX10_line_115 : decode cX10_line 115 = .ok (.iload_n 1, 1) := by decide +kernel
theorem dX10_line_116 : decode cX10_line 116 = .ok (.iload 6, 2) := by decide +kernel
theorem dX10_line_118 : decode cX10_line 118 = .ok (.invokevirtual 410, 3) := by decide +kernel
theorem dX10_line_121 : decode cX10_line 121 = .ok (.invokestatic 27, 3) := by decide +kernel
theorem dX10_line_124 : decode cX10_line 124 = .ok (.istore 5, 2) := by decide +kernel
theorem dX10_line_126 : decode cX10_line 126 = .ok (.iinc 6 1, 3) := by decide +kernel
theorem dX10_line_129 : decode cX10_line 129 = .ok (.goto (-39), 3) := by decide +kernel
theorem dX10_line_132 : decode cX10_line 132 = .ok (.aload_n 0, 1) := by decide +kernel
theorem dX10_line_133 : decode cX10_line 133 = .ok (.getfield 95, 3) := by decide +kernel
theorem dX10_line_136 : decode cX10_line 136 = .ok (.iload_n 2, 1) := by decide +kernel
theorem dX10_line_137 : decode cX10_line 137 = .ok (.iload_n 3, 1) := by decide +kernel
theorem dX10_line_138 : decode cX10_line 138 = .ok (.iload 4, 2) := by decide +kernel
theorem dX10_line_140 : decode cX10_line 140 = .ok (.invokestatic 407, 3) := by decide +kernel
theorem dX10_line_143 : decode cX10_line 143 = .ok (.iload 5, 2) := by decide +kernel
theorem dX10_line_145 : decode cX10_line 145 = .ok (.iastore, 1) := by decide +kernel
theorem dX10_line_146 : decode cX10_line 146 = .ok (.iinc 4 1, 3) := by decide +kernel
theorem dX10_line_149 : decode cX10_line 149 = .ok (.goto (-90), 3) := by decide +kernel
theorem dX10_line_152 : decode cX10_line 152 = .ok (.iinc 3 1, 3) := by decide +kernel
theorem dX10_line_155 : decode cX10_line 155 = .ok (.goto (-106), 3) := by decide +kernel
theorem dX10_line_158 : decode cX10_line 158 = .ok (.iinc 2 (-1), 3) := by decide +kernel
theorem dX10_line_161 : decode cX10_line 161 = .ok (.goto (-118), 3) := by decide +kernel
theorem dX10_line_164 : decode cX10_line 164 = .ok (.aload_n 0, 1) := by decide +kernel
theorem dX10_line_165 : decode cX10_line 165 = .ok (.getfield 95, 3) := by decide +kernel
theorem dX10_line_168 : decode cX10_line 168 = .ok (.iconst 0, 1) := by decide +kernel
theorem dX10_line_169 : decode cX10_line 169 = .ok (.iconst 0, 1) := by decide +kernel
theorem dX10_line_170 : decode cX10_line 170 = .ok (.aload_n 0, 1) := by decide +kernel
theorem dX10_line_171 : decode cX10_line 171 = .ok (.getfield 337, 3) := by decide +kernel
theorem dX10_line_174 : decode cX10_line 174 = .ok (.invokestatic 407, 3) := by decide +kernel
theorem dX10_line_177 : decode cX10_line 177 = .ok (.iaload, 1) := by decide +kernel
theorem dX10_line_178 : decode cX10_line 178 = .ok (.istore_n 2, 1) := by decide +kernel
theorem dX10_line_179 : decode cX10_line 179 = .ok (.iload_n 2, 1) := by decide +kernel
theorem dX10_line_180 : decode cX10_line 180 = .ok (.ldc_w 394, 3) := by decide +kernel
theorem dX10_line_183 : decode cX10_line 183 = .ok (.if_icmp .lt 5, 3) := by decide +kernel
theorem dX10_line_186 : decode cX10_line 186 = .ok (.iconst (-1), 1) := by decide +kernel
theorem dX10_line_187 : decode cX10_line 187 = .ok (.ireturn, 1) := by decide +kernel
theorem dX10_line_188 : decode cX10_line 188 = .ok (.aload_n 0, 1) := by decide +kernel
theorem dX10_line_189 : decode cX10_line 189 = .ok (.getfield 337, 3) := by decide +kernel
theorem dX10_line_192 : decode cX10_line 192 = .ok (.istore_n 3, 1) := by decide +kernel
theorem dX10_line_193 : decode cX10_line 193 = .ok (.iconst 0, 1) := by decide +kernel
theorem dX10_line_194 : decode cX10_line 194 = .ok (.istore 4, 2) := by decide +kernel
theorem dX10_line_196 : decode cX10_line 196 = .ok (.iconst 0, 1) := by decide +kernel
theorem dX10_line_197 : decode cX10_line 197 = .ok (.istore 5, 2) := by decide +kernel
theorem dX10_line_199 : decode cX10_line 199 = .ok (.iload 5, 2) := by decide +kernel
theorem dX10_line_201 : decode cX10_line 201 = .ok (.aload_n 0, 1) := by decide +kernel
theorem dX10_line_202 : decode cX10_line 202 = .ok (.getfield 37, 3) := by decide +kernel
theorem dX10_line_205 : decode cX10_line 205 = .ok (.bipush 6, 2) := by decide +kernel
theorem dX10_line_207 : decode cX10_line 207 = .ok (.iaload, 1) := by decide +kernel
theorem dX10_line_208 : decode cX10_line 208 = .ok (.if_icmp .ge 72, 3) := by decide +kernel
theorem dX10_line_211 : decode cX10_line 211 = .ok (.iconst 0, 1) := by decide +kernel
theorem dX10_line_212 : decode cX10_line 212 = .ok (.istore 6, 2) := by decide +kernel
theorem dX10_line_214 : decode cX10_line 214 = .ok (.aload_n 0, 1) := by decide +kernel
theorem dX10_line_215 : decode cX10_line 215 = .ok (.iload 5, 2) := by decide +kernel
theorem dX10_line_217 : decode cX10_line 217 = .ok (.iload 4, 2) := by decide +kernel
theorem dX10_line_219 : decode cX10_line 219 = .ok (.iload_n 3, 1) := by decide +kernel
theorem dX10_line_220 : decode cX10_line 220 = .ok (.iload_n 1, 1) := by decide +kernel
theorem dX10_line_221 : decode cX10_line 221 = .ok (.iload 6, 2) := by decide +kernel
theorem dX10_line_223 : decode cX10_line 223 = .ok (.invokevirtual 410, 3) := by decide +kernel
theorem dX10_line_226 : decode cX10_line 226 = .ok (.aload_n 0, 1) := by decide +kernel
theorem dX10_line_227 : decode cX10_line 227 = .ok (.getfield 95, 3) := by decide +kernel
theorem dX10_line_230 : decode cX10_line 230 = .ok (.iload 5, 2) := by decide +kernel
theorem dX10_line_232 : decode cX10_line 232 = .ok (.iload 4, 2) := by decide +kernel
theorem dX10_line_234 : decode cX10_line 234 = .ok (.iload_n 3, 1) := by decide +kernel
theorem dX10_line_235 : decode cX10_line 235 = .ok (.invokestatic 407, 3) := by decide +kernel
theorem dX10_line_238 : decode cX10_line 238 = .ok (.iaload, 1) := by decide +kernel
theorem dX10_line_239 : decode cX10_line 239 = .ok (.if_icmp .eq 9, 3) := by decide +kernel
theorem dX10_line_242 : decode cX10_line 242 = .ok (.iinc 6 1, 3) := by decide +kernel
theorem dX10_line_245 : decode cX10_line 245 = .ok (.goto (-31), 3) := by decide +kernel
theorem dX10_line_248 : decode cX10_line 248 = .ok (.aload_n 0, 1) := by decide +kernel
theorem dX10_line_249 : decode cX10_line 249 = .ok (.getfield 98, 3) := by decide +kernel
theorem dX10_line_252 : decode cX10_line 252 = .ok (.iload 5, 2) := by decide +kernel
theorem dX10_line_254 : decode cX10_line 254 = .ok (.iload 6, 2) := by decide +kernel
theorem dX10_line_256 : decode cX10_line 256 = .ok (.iastore, 1) := by decide +kernel
theorem dX10_line_257 : decode cX10_line 257 = .ok (.aload_n 0, 1) := by decide +kernel
theorem dX10_line_258 : decode cX10_line 258 = .ok (.iload 5, 2) := by decide +kernel
theorem dX10_line_260 : decode cX10_line 260 = .ok (.iload_n 3, 1) := by decide +kernel
theorem dX10_line_261 : decode cX10_line 261 = .ok (.iload_n 1, 1) := by decide +kernel
theorem dX10_line_262 : decode cX10_line 262 = .ok (.iload 4, 2) := by decide +kernel
theorem dX10_line_264 : decode cX10_line 264 = .ok (.iload 6, 2) := by decide +kernel
theorem dX10_line_266 : decode cX10_line 266 = .ok (.invokevirtual 355, 3) := by decide +kernel
theorem dX10_line_269 : decode cX10_line 269 = .ok (.istore_n 3, 1) := by decide +kernel
theorem dX10_line_270 : decode cX10_line 270 = .ok (.iload 6, 2) := by decide +kernel
theorem dX10_line_272 : decode cX10_line 272 = .ok (.istore 4, 2) := by decide +kernel
theorem dX10_line_274 : decode cX10_line 274 = .ok (.iinc 5 1, 3) := by decide +kernel
theorem dX10_line_277 : decode cX10_line 277 = .ok (.goto (-78), 3) := by decide +kernel
theorem dX10_line_280 : decode cX10_line 280 = .ok (.aload_n 0, 1) := by decide +kernel
theorem dX10_line_281 : decode cX10_line 281 = .ok (.aload_n 0, 1) := by decide +kernel
theorem dX10_line_282 : decode cX10_line 282 = .ok (.getfield 37, 3) := by decide +kernel
theorem dX10_line_285 : decode cX10_line 285 = .ok (.bipush 6, 2) := by decide +kernel
theorem dX10_line_287 : decode cX10_line 287 = .ok (.iaload, 1) := by decide +kernel
theorem dX10_line_288 : decode cX10_line 288 = .ok (.putfield 413, 3) := by decide +kernel
theorem dX10_line_291 : decode cX10_line 291 = .ok (.aload_n 0, 1) := by decide +kernel
theorem dX10_line_292 : decode cX10_line 292 = .ok (.aload_n 0, 1) := by decide +kernel
theorem dX10_line_293 : decode cX10_line 293 = .ok (.getfield 37, 3) := by decide +kernel
theorem dX10_line_296 : decode cX10_line 296 = .ok (.sipush 334, 3) := by decide +kernel
theorem dX10_line_299 : decode cX10_line 299 = .ok (.iaload, 1) := by decide +kernel
theorem dX10_line_300 : decode cX10_line 300 = .ok (.putfield 101, 3) := by decide +kernel
theorem dX10_line_303 : decode cX10_line 303 = .ok (.aload_n 0, 1) := by decide +kernel
theorem dX10_line_304 : decode cX10_line 304 = .ok (.iconst 1, 1) := by decide +kernel
theorem dX10_line_305 : decode cX10_line 305 = .ok (.putfield 416, 3) := by decide +kernel
theorem dX10_line_308 : decode cX10_line 308 = .ok (.aload_n 0, 1) := by decide +kernel
theorem dX10_line_309 : decode cX10_line 309 = .ok (.getfield 314, 3) := by decide +kernel
theorem dX10_line_312 : decode cX10_line 312 = .ok (.iload_n 2, 1) := by decide +kernel
theorem dX10_line_313 : decode cX10_line 313 = .ok (.iadd, 1) := by decide +kernel
theorem dX10_line_314 : decode cX10_line 314 = .ok (.ireturn, 1) := by decide +kernel
theorem dX10_height_0 : decode cX10_height 0 = .ok (.aload_n 0, 1) := by decide +kernel
theorem dX10_height_1 : decode cX10_height 1 = .ok (.iconst 0, 1) := by decide +kernel
theorem dX10_height_2 : decode cX10_height 2 = .ok (.putfield 1, 3) := by decide +kernel
theorem dX10_height_5 : decode cX10_height 5 = .ok (.aload_n 0, 1) := by decide +kernel
theorem dX10_height_6 : decode cX10_height 6 = .ok (.getfield 416, 3) := by decide +kernel
theorem dX10_height_9 : decode cX10_height 9 = .ok (.ifCond .eq 26, 3) := by decide +kernel
theorem dX10_height_12 : decode cX10_height 12 = .ok (.iload_n 1, 1) := by decide +kernel
theorem dX10_height_13 : decode cX10_height 13 = .ok (.iconst 0, 1) := by decide +kernel
theorem dX10_height_14 : decode cX10_height 14 = .ok (.aload_n 0, 1) := by decide +kernel
theorem dX10_height_15 : decode cX10_height 15 = .ok (.getfield 413, 3) := by decide +kernel
theorem dX10_height_18 : decode cX10_height 18 = .ok (.iconst 1, 1) := by decide +kernel
theorem dX10_height_19 : decode cX10_height 19 = .ok (.isub, 1) := by decide +kernel
theorem dX10_height_20 : decode cX10_height 20 = .ok (.invokestatic 211, 3) := by decide +kernel
theorem dX10_height_23 : decode cX10_height 23 = .ok (.ifCond .eq 12, 3) := by decide +kernel
theorem dX10_height_26 : decode cX10_height 26 = .ok (.aload_n 0, 1) := by decide +kernel
theorem dX10_height_27 : decode cX10_height 27 = .ok (.getfield 98, 3) := by decide +kernel
theorem dX10_height_30 : decode cX10_height 30 = .ok (.iload_n 1, 1) := by decide +kernel
theorem dX10_height_31 : decode cX10_height 31 = .ok (.iaload, 1) := by decide +kernel
theorem dX10_height_32 : decode cX10_height 32 = .ok (.goto 4, 3) := by decide +kernel
theorem dX10_height_35 : decode cX10_height 35 = .ok (.iconst (-1), 1) := by decide +kernel
theorem dX10_height_36 : decode cX10_height 36 = .ok (.ireturn, 1) := by decide +kernel
theorem dX10_take_0 : decode cX10_take 0 = .ok (.aload_n 0, 1) := by decide +kernel
theorem dX10_take_1 : decode cX10_take 1 = .ok (.iconst 0, 1) := by decide +kernel
theorem dX10_take_2 : decode cX10_take 2 = .ok (.putfield 1, 3) := by decide +kernel
theorem dX10_take_5 : decode cX10_take 5 = .ok (.iload_n 1, 1) := by decide +kernel
theorem dX10_take_6 : decode cX10_take 6 = .ok (.ifCond .ne 67, 3) := by decide +kernel
theorem dX10_take_9 : decode cX10_take 9 = .ok (.aload_n 0, 1) := by decide +kernel
theorem dX10_take_10 : decode cX10_take 10 = .ok (.getfield 416, 3) := by decide +kernel
theorem dX10_take_13 : decode cX10_take 13 = .ok (.ifCond .eq 18, 3) := by decide +kernel
theorem dX10_take_16 : decode cX10_take 16 = .ok (.aload_n 0, 1) := by decide +kernel
theorem dX10_take_17 : decode cX10_take 17 = .ok (.getfield 101, 3) := by decide +kernel
theorem dX10_take_20 : decode cX10_take 20 = .ok (.aload_n 0, 1) := by decide +kernel
theorem dX10_take_21 : decode cX10_take 21 = .ok (.getfield 37, 3) := by decide +kernel
theorem dX10_take_24 : decode cX10_take 24 = .ok (.sipush 334, 3) := by decide +kernel
theorem dX10_take_27 : decode cX10_take 27 = .ok (.iaload, 1) := by decide +kernel
theorem dX10_take_28 : decode cX10_take 28 = .ok (.if_icmp .eq 5, 3) := by decide +kernel
theorem dX10_take_31 : decode cX10_take 31 = .ok (.iconst 0, 1) := by decide +kernel
theorem dX10_take_32 : decode cX10_take 32 = .ok (.ireturn, 1) := by decide +kernel
theorem dX10_take_33 : decode cX10_take 33 = .ok (.aload_n 0, 1) := by decide +kernel
theorem dX10_take_34 : decode cX10_take 34 = .ok (.invokevirtual 371, 3) := by decide +kernel
theorem dX10_take_37 : decode cX10_take 37 = .ok (.iconst 0, 1) := by decide +kernel
theorem dX10_take_38 : decode cX10_take 38 = .ok (.istore_n 2, 1) := by decide +kernel
theorem dX10_take_39 : decode cX10_take 39 = .ok (.iload_n 2, 1) := by decide +kernel
theorem dX10_take_40 : decode cX10_take 40 = .ok (.aload_n 0, 1) := by decide +kernel
theorem dX10_take_41 : decode cX10_take 41 = .ok (.getfield 37, 3) := by decide +kernel
theorem dX10_take_44 : decode cX10_take 44 = .ok (.bipush 6, 2) := by decide +kernel
theorem dX10_take_46 : decode cX10_take 46 = .ok (.iaload, 1) := by decide +kernel
theorem dX10_take_47 : decode cX10_take 47 = .ok (.if_icmp .ge 24, 3) := by decide +kernel
theorem dX10_take_50 : decode cX10_take 50 = .ok (.aload_n 0, 1) := by decide +kernel
theorem dX10_take_51 : decode cX10_take 51 = .ok (.getfield 37, 3) := by decide +kernel
theorem dX10_take_54 : decode cX10_take 54 = .ok (.bipush 116, 2) := by decide +kernel
theorem dX10_take_56 : decode cX10_take 56 = .ok (.iload_n 2, 1) := by decide +kernel
theorem dX10_take_57 : decode cX10_take 57 = .ok (.iadd, 1) := by decide +kernel
theorem dX10_take_58 : decode cX10_take 58 = .ok (.aload_n 0, 1) := by decide +kernel
theorem dX10_take_59 : decode cX10_take 59 = .ok (.getfield 98, 3) := by decide +kernel
theorem dX10_take_62 : decode cX10_take 62 = .ok (.iload_n 2, 1) := by decide +kernel
theorem dX10_take_63 : decode cX10_take 63 = .ok (.iaload, 1) := by decide +kernel
theorem dX10_take_64 : decode cX10_take 64 = .ok (.iastore, 1) := by decide +kernel
theorem dX10_take_65 : decode cX10_take 65 = .ok (.iinc 2 1, 3) := by decide +kernel
theorem dX10_take_68 : decode cX10_take 68 = .ok (.goto (-29), 3) := by decide +kernel
theorem dX10_take_71 : decode cX10_take 71 = .ok (.iconst 1, 1) := by decide +kernel
theorem dX10_take_72 : decode cX10_take 72 = .ok (.ireturn, 1) := by decide +kernel
theorem dX10_take_73 : decode cX10_take 73 = .ok (.iload_n 1, 1) := by decide +kernel
theorem dX10_take_74 : decode cX10_take 74 = .ok (.iconst 1, 1) := by decide +kernel
theorem dX10_take_75 : decode cX10_take 75 = .ok (.if_icmp .ne 36, 3) := by decide +kernel
theorem dX10_take_78 : decode cX10_take 78 = .ok (.aload_n 0, 1) := by decide +kernel
theorem dX10_take_79 : decode cX10_take 79 = .ok (.getfield 404, 3) := by decide +kernel
theorem dX10_take_82 : decode cX10_take 82 = .ok (.ifCond .eq 29, 3) := by decide +kernel
theorem dX10_take_85 : decode cX10_take 85 = .ok (.aload_n 0, 1) := by decide +kernel
theorem dX10_take_86 : decode cX10_take 86 = .ok (.getfield 85, 3) := by decide +kernel
theorem dX10_take_89 : decode cX10_take 89 = .ok (.aload_n 0, 1) := by decide +kernel
theorem dX10_take_90 : decode cX10_take 90 = .ok (.getfield 37, 3) := by decide +kernel
theorem dX10_take_93 : decode cX10_take 93 = .ok (.sipush 334, 3) := by decide +kernel
theorem dX10_take_96 : decode cX10_take 96 = .ok (.iaload, 1) := by decide +kernel
theorem dX10_take_97 : decode cX10_take 97 = .ok (.if_icmp .ne 14, 3) := by decide +kernel
theorem dX10_take_100 : decode cX10_take 100 = .ok (.aload_n 0, 1) := by decide +kernel
theorem dX10_take_101 : decode cX10_take 101 = .ok (.invokevirtual 281, 3) := by decide +kernel
theorem dX10_take_104 : decode cX10_take 104 = .ok (.ifCond .eq 7, 3) := by decide +kernel
theorem dX10_take_107 : decode cX10_take 107 = .ok (.iconst 1, 1) := by decide +kernel
theorem dX10_take_108 : decode cX10_take 108 = .ok (.goto 4, 3) := by decide +kernel
theorem dX10_take_111 : decode cX10_take 111 = .ok (.iconst 0, 1) := by decide +kernel
theorem dX10_take_112 : decode cX10_take 112 = .ok (.istore_n 2, 1) := by decide +kernel
theorem dX10_take_113 : decode cX10_take 113 = .ok (.iconst 0, 1) := by decide +kernel
theorem dX10_take_114 : decode cX10_take 114 = .ok (.istore_n 3, 1) := by decide +kernel
theorem dX10_take_115 : decode cX10_take 115 = .ok (.iload_n 3, 1) := by decide +kernel
theorem dX10_take_116 : decode cX10_take 116 = .ok (.iconst 4, 1) := by decide +kernel
theorem dX10_take_117 : decode cX10_take 117 = .ok (.if_icmp .ge 37, 3) := by decide +kernel
theorem dX10_take_120 : decode cX10_take 120 = .ok (.iload_n 2, 1) := by decide +kernel
theorem dX10_take_121 : decode cX10_take 121 = .ok (.ifCond .eq 33, 3) := by decide +kernel
theorem dX10_take_124 : decode cX10_take 124 = .ok (.aload_n 0, 1) := by decide +kernel
theorem dX10_take_125 : decode cX10_take 125 = .ok (.getfield 37, 3) := by decide +kernel
theorem dX10_take_128 : decode cX10_take 128 = .ok (.bipush 105, 2) := by decide +kernel
theorem dX10_take_130 : decode cX10_take 130 = .ok (.iload_n 3, 1) := by decide +kernel
theorem dX10_take_131 : decode cX10_take 131 = .ok (.iadd, 1) := by decide +kernel
theorem dX10_take_132 : decode cX10_take 132 = .ok (.iaload, 1) := by decide +kernel
theorem dX10_take_133 : decode cX10_take 133 = .ok (.aload_n 0, 1) := by decide +kernel
theorem dX10_take_134 : decode cX10_take 134 = .ok (.getfield 82, 3) := by decide +kernel
theorem dX10_take_137 : decode cX10_take 137 = .ok (.iload_n 3, 1) := by decide +kernel
theorem dX10_take_138 : decode cX10_take 138 = .ok (.iaload, 1) := by decide +kernel
theorem dX10_take_139 : decode cX10_take 139 = .ok (.if_icmp .ne 7, 3) := by decide +kernel
theorem dX10_take_142 : decode cX10_take 142 = .ok (.iconst 1, 1) := by decide +kernel
theorem dX10_take_143 : decode cX10_take 143 = .ok (.goto 4, 3) := by decide +kernel
theorem dX10_take_146 : decode cX10_take 146 = .ok (.iconst 0, 1) := by decide +kernel
theorem dX10_take_147 : decode cX10_take 147 = .ok (.istore_n 2, 1) := by decide +kernel
theorem dX10_take_148 : decode cX10_take 148 = .ok (.iinc 3 1, 3) := by decide +kernel
theorem dX10_take_151 : decode cX10_take 151 = .ok (.goto (-36), 3) := by decide +kernel
theorem dX10_take_154 : decode cX10_take 154 = .ok (.iload_n 2, 1) := by decide +kernel
theorem dX10_take_155 : decode cX10_take 155 = .ok (.ifCond .ne 5, 3) := by decide +kernel
theorem dX10_take_158 : decode cX10_take 158 = .ok (.iconst 0, 1) := by decide +kernel
theorem dX10_take_159 : decode cX10_take 159 = .ok (.ireturn, 1) := by decide +kernel
theorem dX10_take_160 : decode cX10_take 160 = .ok (.aload_n 0, 1) := by decide +kernel
theorem dX10_take_161 : decode cX10_take 161 = .ok (.invokevirtual 371, 3) := by decide +kernel
theorem dX10_take_164 : decode cX10_take 164 = .ok (.iconst 0, 1) := by decide +kernel
theorem dX10_take_165 : decode cX10_take 165 = .ok (.istore_n 3, 1) := by decide +kernel
theorem dX10_take_166 : decode cX10_take 166 = .ok (.iload_n 3, 1) := by decide +kernel
theorem dX10_take_167 : decode cX10_take 167 = .ok (.iconst 4, 1) := by decide +kernel
theorem dX10_take_168 : decode cX10_take 168 = .ok (.if_icmp .ge 24, 3) := by decide +kernel
theorem dX10_take_171 : decode cX10_take 171 = .ok (.aload_n 0, 1) := by decide +kernel
theorem dX10_take_172 : decode cX10_take 172 = .ok (.getfield 37, 3) := by decide +kernel
theorem dX10_take_175 : decode cX10_take 175 = .ok (.bipush 109, 2) := by decide +kernel
theorem dX10_take_177 : decode cX10_take 177 = .ok (.iload_n 3, 1) := by decide +kernel
theorem dX10_take_178 : decode cX10_take 178 = .ok (.iadd, 1) := by decide +kernel
theorem dX10_take_179 : decode cX10_take 179 = .ok (.aload_n 0, 1) := by decide +kernel
theorem dX10_take_180 : decode cX10_take 180 = .ok (.getfield 79, 3) := by decide +kernel
theorem dX10_take_183 : decode cX10_take 183 = .ok (.iload_n 3, 1) := by decide +kernel
theorem dX10_take_184 : decode cX10_take 184 = .ok (.iaload, 1) := by decide +kernel
theorem dX10_take_185 : decode cX10_take 185 = .ok (.iastore, 1) := by decide +kernel
theorem dX10_take_186 : decode cX10_take 186 = .ok (.iinc 3 1, 3) := by decide +kernel
theorem dX10_take_189 : decode cX10_take 189 = .ok (.goto (-23), 3) := by decide +kernel
theorem dX10_take_192 : decode cX10_take 192 = .ok (.iconst 1, 1) := by decide +kernel
theorem dX10_take_193 : decode cX10_take 193 = .ok (.ireturn, 1) := by decide +kernel
theorem dX10_bits_0 : decode cX10_bits 0 = .ok (.iconst 0, 1) := by decide +kernel
theorem dX10_bits_1 : decode cX10_bits 1 = .ok (.istore_n 1, 1) := by decide +kernel
theorem dX10_bits_2 : decode cX10_bits 2 = .ok (.iload_n 0, 1) := by decide +kernel
theorem dX10_bits_3 : decode cX10_bits 3 = .ok (.istore_n 2, 1) := by decide +kernel
theorem dX10_bits_4 : decode cX10_bits 4 = .ok (.iload_n 2, 1) := by decide +kernel
theorem dX10_bits_5 : decode cX10_bits 5 = .ok (.ifCond .eq 15, 3) := by decide +kernel
theorem dX10_bits_8 : decode cX10_bits 8 = .ok (.iinc 1 1, 3) := by decide +kernel
theorem dX10_bits_11 : decode cX10_bits 11 = .ok (.iload_n 2, 1) := by decide +kernel
theorem dX10_bits_12 : decode cX10_bits 12 = .ok (.iload_n 2, 1) := by decide +kernel
theorem dX10_bits_13 : decode cX10_bits 13 = .ok (.iconst 1, 1) := by decide +kernel
theorem dX10_bits_14 : decode cX10_bits 14 = .ok (.isub, 1) := by decide +kernel
theorem dX10_bits_15 : decode cX10_bits 15 = .ok (.iand, 1) := by decide +kernel
theorem dX10_bits_16 : decode cX10_bits 16 = .ok (.istore_n 2, 1) := by decide +kernel
theorem dX10_bits_17 : decode cX10_bits 17 = .ok (.goto (-13), 3) := by decide +kernel
theorem dX10_bits_20 : decode cX10_bits 20 = .ok (.iload_n 1, 1) := by decide +kernel
theorem dX10_bits_21 : decode cX10_bits 21 = .ok (.ireturn, 1) := by decide +kernel
theorem dX10_four_0 : decode cX10_four 0 = .ok (.aload_n 0, 1) := by decide +kernel
theorem dX10_four_1 : decode cX10_four 1 = .ok (.iconst 0, 1) := by decide +kernel
theorem dX10_four_2 : decode cX10_four 2 = .ok (.putfield 1, 3) := by decide +kernel
theorem dX10_four_5 : decode cX10_four 5 = .ok (.aload_n 0, 1) := by decide +kernel
theorem dX10_four_6 : decode cX10_four 6 = .ok (.getfield 37, 3) := by decide +kernel
theorem dX10_four_9 : decode cX10_four 9 = .ok (.iconst 5, 1) := by decide +kernel
theorem dX10_four_10 : decode cX10_four 10 = .ok (.iaload, 1) := by decide +kernel
theorem dX10_four_11 : decode cX10_four 11 = .ok (.bipush 6, 2) := by decide +kernel
theorem dX10_four_13 : decode cX10_four 13 = .ok (.if_icmp .le 5, 3) := by decide +kernel
theorem dX10_four_16 : decode cX10_four 16 = .ok (.iconst (-1), 1) := by decide +kernel
theorem dX10_four_17 : decode cX10_four 17 = .ok (.ireturn, 1) := by decide +kernel
theorem dX10_four_18 : decode cX10_four 18 = .ok (.aload_n 0, 1) := by decide +kernel
theorem dX10_four_19 : decode cX10_four 19 = .ok (.invokevirtual 419, 3) := by decide +kernel
theorem dX10_four_22 : decode cX10_four 22 = .ok (.ldc_w 394, 3) := by decide +kernel
theorem dX10_four_25 : decode cX10_four 25 = .ok (.istore_n 1, 1) := by decide +kernel
theorem dX10_four_26 : decode cX10_four 26 = .ok (.iconst (-1), 1) := by decide +kernel
theorem dX10_four_27 : decode cX10_four 27 = .ok (.istore_n 2, 1) := by decide +kernel
theorem dX10_four_28 : decode cX10_four 28 = .ok (.iconst 0, 1) := by decide +kernel
theorem dX10_four_29 : decode cX10_four 29 = .ok (.istore_n 3, 1) := by decide +kernel
theorem dX10_four_30 : decode cX10_four 30 = .ok (.iload_n 3, 1) := by decide +kernel
theorem dX10_four_31 : decode cX10_four 31 = .ok (.iconst 1, 1) := by decide +kernel
theorem dX10_four_32 : decode cX10_four 32 = .ok (.aload_n 0, 1) := by decide +kernel
theorem dX10_four_33 : decode cX10_four 33 = .ok (.getfield 37, 3) := by decide +kernel
theorem dX10_four_36 : decode cX10_four 36 = .ok (.iconst 5, 1) := by decide +kernel
theorem dX10_four_37 : decode cX10_four 37 = .ok (.iaload, 1) := by decide +kernel
theorem dX10_four_38 : decode cX10_four 38 = .ok (.ishl, 1) := by decide +kernel
theorem dX10_four_39 : decode cX10_four 39 = .ok (.if_icmp .ge 90, 3) := by decide +kernel
theorem dX10_four_42 : decode cX10_four 42 = .ok (.iload_n 3, 1) := by decide +kernel
theorem dX10_four_43 : decode cX10_four 43 = .ok (.invokestatic 422, 3) := by decide +kernel
theorem dX10_four_46 : decode cX10_four 46 = .ok (.iconst 4, 1) := by decide +kernel
theorem dX10_four_47 : decode cX10_four 47 = .ok (.if_icmp .eq 6, 3) := by decide +kernel
theorem dX10_four_50 : decode cX10_four 50 = .ok (.goto 73, 3) := by decide +kernel
theorem dX10_four_53 : decode cX10_four 53 = .ok (.iconst 0, 1) := by decide +kernel
theorem dX10_four_54 : decode cX10_four 54 = .ok (.istore 4, 2) := by decide +kernel
theorem dX10_four_56 : decode cX10_four 56 = .ok (.iconst 0, 1) := by decide +kernel
theorem dX10_four_57 : decode cX10_four 57 = .ok (.istore 5, 2) := by decide +kernel
theorem dX10_four_59 : decode cX10_four 59 = .ok (.iload 5, 2) := by decide +kernel
theorem dX10_four_61 : decode cX10_four 61 = .ok (.aload_n 0, 1) := by decide +kernel
theorem dX10_four_62 : decode cX10_four 62 = .ok (.getfield 37, 3) := by decide +kernel
theorem dX10_four_65 : decode cX10_four 65 = .ok (.iconst 5, 1) := by decide +kernel
theorem dX10_four_66 : decode cX10_four 66 = .ok (.iaload, 1) := by decide +kernel
theorem dX10_four_67 : decode cX10_four 67 = .ok (.if_icmp .ge 36, 3) := by decide +kernel
theorem dX10_four_70 : decode cX10_four 70 = .ok (.iload_n 3, 1) := by decide +kernel
theorem dX10_four_71 : decode cX10_four 71 = .ok (.iload 5, 2) := by decide +kernel
theorem dX10_four_73 : decode cX10_four 73 = .ok (.invokestatic 232, 3) := by decide +kernel
theorem dX10_four_76 : decode cX10_four 76 = .ok (.ifCond .ne 6, 3) := by decide +kernel
theorem dX10_four_79 : decode cX10_four 79 = .ok (.goto 18, 3) := by decide +kernel
theorem dX10_four_82 : decode cX10_four 82 = .ok (.aload_n 0, 1) := by decide +kernel
theorem dX10_four_83 : decode cX10_four 83 = .ok (.getfield 37, 3) := by decide +kernel
theorem dX10_four_86 : decode cX10_four 86 = .ok (.bipush 105, 2) := by decide +kernel
theorem dX10_four_88 : decode cX10_four 88 = .ok (.iload 4, 2) := by decide +kernel
theorem dX10_four_90 : decode cX10_four 90 = .ok (.iadd, 1) := by decide +kernel
theorem dX10_four_91 : decode cX10_four 91 = .ok (.iload 5, 2) := by decide +kernel
theorem dX10_four_93 : decode cX10_four 93 = .ok (.iastore, 1) := by decide +kernel
theorem dX10_four_94 : decode cX10_four 94 = .ok (.iinc 4 1, 3) := by decide +kernel
theorem dX10_four_97 : decode cX10_four 97 = .ok (.iinc 5 1, 3) := by decide +kernel
theorem dX10_four_100 : decode cX10_four 100 = .ok (.goto (-41), 3) := by decide +kernel
theorem dX10_four_103 : decode cX10_four 103 = .ok (.aload_n 0, 1) := by decide +kernel
theorem dX10_four_104 : decode cX10_four 104 = .ok (.invokevirtual 401, 3) := by decide +kernel
theorem dX10_four_107 : decode cX10_four 107 = .ok (.istore 5, 2) := by decide +kernel
theorem dX10_four_109 : decode cX10_four 109 = .ok (.iload 5, 2) := by decide +kernel
theorem dX10_four_111 : decode cX10_four 111 = .ok (.iload_n 1, 1) := by decide +kernel
theorem dX10_four_112 : decode cX10_four 112 = .ok (.if_icmp .lt 6, 3) := by decide +kernel
theorem dX10_four_115 : decode cX10_four 115 = .ok (.goto 8, 3) := by decide +kernel
theorem dX10_four_118 : decode cX10_four 118 = .ok (.iload 5, 2) := by decide +kernel
theorem dX10_four_120 : decode cX10_four 120 = .ok (.istore_n 1, 1) := by decide +kernel
theorem dX10_four_121 : decode cX10_four 121 = .ok (.iload_n 3, 1) := by decide +kernel
theorem dX10_four_122 : decode cX10_four 122 = .ok (.istore_n 2, 1) := by decide +kernel
theorem dX10_four_123 : decode cX10_four 123 = .ok (.iinc 3 1, 3) := by decide +kernel
theorem dX10_four_126 : decode cX10_four 126 = .ok (.goto (-96), 3) := by decide +kernel
theorem dX10_four_129 : decode cX10_four 129 = .ok (.aload_n 0, 1) := by decide +kernel
theorem dX10_four_130 : decode cX10_four 130 = .ok (.invokevirtual 425, 3) := by decide +kernel
theorem dX10_four_133 : decode cX10_four 133 = .ok (.iload_n 2, 1) := by decide +kernel
theorem dX10_four_134 : decode cX10_four 134 = .ok (.ireturn, 1) := by decide +kernel
theorem dX10_kilo_0 : decode cX10_kilo 0 = .ok (.aload_n 0, 1) := by decide +kernel
theorem dX10_kilo_1 : decode cX10_kilo 1 = .ok (.iconst 0, 1) := by decide +kernel
theorem dX10_kilo_2 : decode cX10_kilo 2 = .ok (.putfield 1, 3) := by decide +kernel
theorem dX10_kilo_5 : decode cX10_kilo 5 = .ok (.aload_n 0, 1) := by decide +kernel
theorem dX10_kilo_6 : decode cX10_kilo 6 = .ok (.invokevirtual 281, 3) := by decide +kernel
theorem dX10_kilo_9 : decode cX10_kilo 9 = .ok (.ifCond .eq 27, 3) := by decide +kernel
theorem dX10_kilo_12 : decode cX10_kilo 12 = .ok (.iload_n 1, 1) := by decide +kernel
theorem dX10_kilo_13 : decode cX10_kilo 13 = .ok (.iconst 1, 1) := by decide +kernel
theorem dX10_kilo_14 : decode cX10_kilo 14 = .ok (.bipush 99, 2) := by decide +kernel
theorem dX10_kilo_16 : decode cX10_kilo 16 = .ok (.invokestatic 211, 3) := by decide +kernel
theorem dX10_kilo_19 : decode cX10_kilo 19 = .ok (.ifCond .eq 17, 3) := by decide +kernel
theorem dX10_kilo_22 : decode cX10_kilo 22 = .ok (.aload_n 0, 1) := by decide +kernel
theorem dX10_kilo_23 : decode cX10_kilo 23 = .ok (.getfield 37, 3) := by decide +kernel
theorem dX10_kilo_26 : decode cX10_kilo 26 = .ok (.bipush 113, 2) := by decide +kernel
theorem dX10_kilo_28 : decode cX10_kilo 28 = .ok (.iaload, 1) := by decide +kernel
theorem dX10_kilo_29 : decode cX10_kilo 29 = .ok (.iload_n 1, 1) := by decide +kernel
theorem dX10_kilo_30 : decode cX10_kilo 30 = .ok (.iadd, 1) := by decide +kernel
theorem dX10_kilo_31 : decode cX10_kilo 31 = .ok (.bipush 99, 2) := by decide +kernel
theorem dX10_kilo_33 : decode cX10_kilo 33 = .ok (.if_icmp .le 7, 3) := by decide +kernel
theorem dX10_kilo_36 : decode cX10_kilo 36 = .ok (.ldc_w 428, 3) := by decide +kernel
theorem dX10_kilo_39 : decode cX10_kilo 39 = .ok (.ireturn, 1) := by decide +kernel
theorem dX10_kilo_40 : decode cX10_kilo 40 = .ok (.aload_n 0, 1) := by decide +kernel
theorem dX10_kilo_41 : decode cX10_kilo 41 = .ok (.invokevirtual 368, 3) := by decide +kernel
theorem dX10_kilo_44 : decode cX10_kilo 44 = .ok (.aload_n 0, 1) := by decide +kernel
theorem dX10_kilo_45 : decode cX10_kilo 45 = .ok (.bipush 113, 2) := by decide +kernel
theorem dX10_kilo_47 : decode cX10_kilo 47 = .ok (.aload_n 0, 1) := by decide +kernel
theorem dX10_kilo_48 : decode cX10_kilo 48 = .ok (.getfield 37, 3) := by decide +kernel
theorem dX10_kilo_51 : decode cX10_kilo 51 = .ok (.bipush 113, 2) := by decide +kernel
theorem dX10_kilo_53 : decode cX10_kilo 53 = .ok (.iaload, 1) := by decide +kernel
theorem dX10_kilo_54 : decode cX10_kilo 54 = .ok (.iload_n 1, 1) := by decide +kernel
theorem dX10_kilo_55 : decode cX10_kilo 55 = .ok (.iadd, 1) := by decide +kernel
theorem dX10_kilo_56 : decode cX10_kilo 56 = .ok (.invokevirtual 429, 3) := by decide +kernel
theorem dX10_kilo_59 : decode cX10_kilo 59 = .ok (.invokestatic 432, 3) := by decide +kernel
theorem dX10_kilo_62 : decode cX10_kilo 62 = .ok (.ireturn, 1) := by decide +kernel
theorem dX10_runners_0 : decode cX10_runners 0 = .ok (.aload_n 0, 1) := by decide +kernel
theorem dX10_runners_1 : decode cX10_runners 1 = .ok (.iconst 0, 1) := by decide +kernel
theorem dX10_runners_2 : decode cX10_runners 2 = .ok (.putfield 1, 3) := by decide +kernel
theorem dX10_runners_5 : decode cX10_runners 5 = .ok (.aload_n 0, 1) := by decide +kernel
theorem dX10_runners_6 : decode cX10_runners 6 = .ok (.invokevirtual 281, 3) := by decide +kernel
theorem dX10_runners_9 : decode cX10_runners 9 = .ok (.ifCond .ne 5, 3) := by decide +kernel
theorem dX10_runners_12 : decode cX10_runners 12 = .ok (.iconst (-1), 1) := by decide +kernel
theorem dX10_runners_13 : decode cX10_runners 13 = .ok (.ireturn, 1) := by decide +kernel
theorem dX10_runners_14 : decode cX10_runners 14 = .ok (.iconst (-1), 1) := by decide +kernel
theorem dX10_runners_15 : decode cX10_runners 15 = .ok (.istore_n 1, 1) := by decide +kernel
theorem dX10_runners_16 : decode cX10_runners 16 = .ok (.ldc_w 394, 3) := by decide +kernel
theorem dX10_runners_19 : decode cX10_runners 19 = .ok (.istore_n 2, 1) := by decide +kernel
theorem dX10_runners_20 : decode cX10_runners 20 = .ok (.iconst 0, 1) := by decide +kernel
theorem dX10_runners_21 : decode cX10_runners 21 = .ok (.istore_n 3, 1) := by decide +kernel
theorem dX10_runners_22 : decode cX10_runners 22 = .ok (.iload_n 3, 1) := by decide +kernel
theorem dX10_runners_23 : decode cX10_runners 23 = .ok (.aload_n 0, 1) := by decide +kernel
theorem dX10_runners_24 : decode cX10_runners 24 = .ok (.getfield 37, 3) := by decide +kernel
theorem dX10_runners_27 : decode cX10_runners 27 = .ok (.bipush 7, 2) := by decide +kernel
theorem dX10_runners_29 : decode cX10_runners 29 = .ok (.iaload, 1) := by decide +kernel
theorem dX10_runners_30 : decode cX10_runners 30 = .ok (.if_icmp .ge 37, 3) := by decide +kernel
theorem dX10_runners_33 : decode cX10_runners 33 = .ok (.aload_n 0, 1) := by decide +kernel
theorem dX10_runners_34 : decode cX10_runners 34 = .ok (.bipush 114, 2) := by decide +kernel
theorem dX10_runners_36 : decode cX10_runners 36 = .ok (.iload_n 3, 1) := by decide +kernel
theorem dX10_runners_37 : decode cX10_runners 37 = .ok (.invokevirtual 429, 3) := by decide +kernel
theorem dX10_runners_40 : decode cX10_runners 40 = .ok (.istore 4, 2) := by decide +kernel
theorem dX10_runners_42 : decode cX10_runners 42 = .ok (.iload 4, 2) := by decide +kernel
theorem dX10_runners_44 : decode cX10_runners 44 = .ok (.ifCond .lt 17, 3) := by decide +kernel
theorem dX10_runners_47 : decode cX10_runners 47 = .ok (.iload 4, 2) := by decide +kernel
theorem dX10_runners_49 : decode cX10_runners 49 = .ok (.iload_n 2, 1) := by decide +kernel
theorem dX10_runners_50 : decode cX10_runners 50 = .ok (.if_icmp .lt 6, 3) := by decide +kernel
theorem dX10_runners_53 : decode cX10_runners 53 = .ok (.goto 8, 3) := by decide +kernel
theorem dX10_runners_56 : decode cX10_runners 56 = .ok (.iload 4, 2) := by decide +kernel
theorem dX10_runners_58 : decode cX10_runners 58 = .ok (.istore_n 2, 1) := by decide +kernel
theorem dX10_runners_59 : decode cX10_runners 59 = .ok (.iload_n 3, 1) := by decide +kernel
theorem dX10_runners_60 : decode cX10_runners 60 = .ok (.istore_n 1, 1) := by decide +kernel
theorem dX10_runners_61 : decode cX10_runners 61 = .ok (.iinc 3 1, 3) := by decide +kernel
theorem dX10_runners_64 : decode cX10_runners 64 = .ok (.goto (-42), 3) := by decide +kernel
theorem dX10_runners_67 : decode cX10_runners 67 = .ok (.iload_n 1, 1) := by decide +kernel
theorem dX10_runners_68 : decode cX10_runners 68 = .ok (.ireturn, 1) := by decide +kernel
theorem dX10_runs_0 : decode cX10_runs 0 = .ok (.aload_n 0, 1) := by decide +kernel
theorem dX10_runs_1 : decode cX10_runs 1 = .ok (.iconst 0, 1) := by decide +kernel
theorem dX10_runs_2 : decode cX10_runs 2 = .ok (.putfield 1, 3) := by decide +kernel
theorem dX10_runs_5 : decode cX10_runs 5 = .ok (.aload_n 0, 1) := by decide +kernel
theorem dX10_runs_6 : decode cX10_runs 6 = .ok (.sipush 940, 3) := by decide +kernel
theorem dX10_runs_9 : decode cX10_runs 9 = .ok (.invokevirtual 248, 3) := by decide +kernel
theorem dX10_runs_12 : decode cX10_runs 12 = .ok (.aload_n 0, 1) := by decide +kernel
theorem dX10_runs_13 : decode cX10_runs 13 = .ok (.invokevirtual 281, 3) := by decide +kernel
theorem dX10_runs_16 : decode cX10_runs 16 = .ok (.ifCond .eq 11, 3) := by decide +kernel
theorem dX10_runs_19 : decode cX10_runs 19 = .ok (.aload_n 0, 1) := by decide +kernel
theorem dX10_runs_20 : decode cX10_runs 20 = .ok (.getfield 18, 3) := by decide +kernel
theorem dX10_runs_23 : decode cX10_runs 23 = .ok (.iconst 4, 1) := by decide +kernel
theorem dX10_runs_24 : decode cX10_runs 24 = .ok (.if_icmp .eq 5, 3) := by decide +kernel
theorem dX10_runs_27 : decode cX10_runs 27 = .ok (.iconst (-1), 1) := by decide +kernel
theorem dX10_runs_28 : decode cX10_runs 28 = .ok (.ireturn, 1) := by decide +kernel
theorem dX10_runs_29 : decode cX10_runs 29 = .ok (.iconst 0, 1) := by decide +kernel
theorem dX10_runs_30 : decode cX10_runs 30 = .ok (.istore_n 1, 1) := by decide +kernel
theorem dX10_runs_31 : decode cX10_runs 31 = .ok (.iconst 0, 1) := by decide +kernel
theorem dX10_runs_32 : decode cX10_runs 32 = .ok (.istore_n 2, 1) := by decide +kernel
theorem dX10_runs_33 : decode cX10_runs 33 = .ok (.iload_n 2, 1) := by decide +kernel
theorem dX10_runs_34 : decode cX10_runs 34 = .ok (.iconst 4, 1) := by decide +kernel
theorem dX10_runs_35 : decode cX10_runs 35 = .ok (.if_icmp .ge 49, 3) := by decide +kernel
theorem dX10_runs_38 : decode cX10_runs 38 = .ok (.aload_n 0, 1) := by decide +kernel
theorem dX10_runs_39 : decode cX10_runs 39 = .ok (.iload_n 2, 1) := by decide +kernel
theorem dX10_runs_40 : decode cX10_runs 40 = .ok (.invokevirtual 435, 3) := by decide +kernel
theorem dX10_runs_43 : decode cX10_runs 43 = .ok (.iconst 1, 1) := by decide +kernel
theorem dX10_runs_44 : decode cX10_runs 44 = .ok (.bipush 60, 2) := by decide +kernel
theorem dX10_runs_46 : decode cX10_runs 46 = .ok (.invokestatic 211, 3) := by decide +kernel
theorem dX10_runs_49 : decode cX10_runs 49 = .ok (.ifCond .eq 17, 3) := by decide +kernel
theorem dX10_runs_52 : decode cX10_runs 52 = .ok (.aload_n 0, 1) := by decide +kernel
theorem dX10_runs_53 : decode cX10_runs 53 = .ok (.bipush 115, 2) := by decide +kernel
theorem dX10_runs_55 : decode cX10_runs 55 = .ok (.aload_n 0, 1) := by decide +kernel
theorem dX10_runs_56 : decode cX10_runs 56 = .ok (.iload_n 2, 1) := by decide +kernel
theorem dX10_runs_57 : decode cX10_runs 57 = .ok (.invokevirtual 435, 3) := by decide +kernel
theorem dX10_runs_60 : decode cX10_runs 60 = .ok (.invokevirtual 429, 3) := by decide +kernel
theorem dX10_runs_63 : decode cX10_runs 63 = .ok (.goto 4, 3) := by decide +kernel
theorem dX10_runs_66 : decode cX10_runs 66 = .ok (.iconst (-1), 1) := by decide +kernel
theorem dX10_runs_67 : decode cX10_runs 67 = .ok (.istore_n 3, 1) := by decide +kernel
theorem dX10_runs_68 : decode cX10_runs 68 = .ok (.iload_n 3, 1) := by decide +kernel
theorem dX10_runs_69 : decode cX10_runs 69 = .ok (.ifCond .ge 5, 3) := by decide +kernel
theorem dX10_runs_72 : decode cX10_runs 72 = .ok (.iconst (-1), 1) := by decide +kernel
theorem dX10_runs_73 : decode cX10_runs 73 = .ok (.ireturn, 1) := by decide +kernel
theorem dX10_runs_74 : decode cX10_runs 74 = .ok (.iload_n 1, 1) := by decide +kernel
theorem dX10_runs_75 : decode cX10_runs 75 = .ok (.iload_n 3, 1) := by decide +kernel
theorem dX10_runs_76 : decode cX10_runs 76 = .ok (.iadd, 1) := by decide +kernel
theorem dX10_runs_77 : decode cX10_runs 77 = .ok (.istore_n 1, 1) := by decide +kernel
theorem dX10_runs_78 : decode cX10_runs 78 = .ok (.iinc 2 1, 3) := by decide +kernel
theorem dX10_runs_81 : decode cX10_runs 81 = .ok (.goto (-48), 3) := by decide +kernel
theorem dX10_runs_84 : decode cX10_runs 84 = .ok (.iload_n 1, 1) := by decide +kernel
theorem dX10_runs_85 : decode cX10_runs 85 = .ok (.ireturn, 1) := by decide +kernel
theorem dX10_worth_0 : decode cX10_worth 0 = .ok (.aload_n 0, 1) := by decide +kernel
theorem dX10_worth_1 : decode cX10_worth 1 = .ok (.iconst 0, 1) := by decide +kernel
theorem dX10_worth_2 : decode cX10_worth 2 = .ok (.putfield 1, 3) := by decide +kernel
theorem dX10_worth_5 : decode cX10_worth 5 = .ok (.aload_n 0, 1) := by decide +kernel
theorem dX10_worth_6 : decode cX10_worth 6 = .ok (.invokevirtual 281, 3) := by decide +kernel
theorem dX10_worth_9 : decode cX10_worth 9 = .ok (.ifCond .eq 23, 3) := by decide +kernel
theorem dX10_worth_12 : decode cX10_worth 12 = .ok (.iload_n 1, 1) := by decide +kernel
theorem dX10_worth_13 : decode cX10_worth 13 = .ok (.iconst 1, 1) := by decide +kernel
theorem dX10_worth_14 : decode cX10_worth 14 = .ok (.bipush 60, 2) := by decide +kernel
theorem dX10_worth_16 : decode cX10_worth 16 = .ok (.invokestatic 211, 3) := by decide +kernel
theorem dX10_worth_19 : decode cX10_worth 19 = .ok (.ifCond .eq 13, 3) := by decide +kernel
theorem dX10_worth_22 : decode cX10_worth 22 = .ok (.iload_n 2, 1) := by decide +kernel
theorem dX10_worth_23 : decode cX10_worth 23 = .ok (.iconst 1, 1) := by decide +kernel
theorem dX10_worth_24 : decode cX10_worth 24 = .ok (.bipush 60, 2) := by decide +kernel
theorem dX10_worth_26 : decode cX10_worth 26 = .ok (.invokestatic 211, 3) := by decide +kernel
theorem dX10_worth_29 : decode cX10_worth 29 = .ok (.ifCond .ne 7, 3) := by decide +kernel
theorem dX10_worth_32 : decode cX10_worth 32 = .ok (.ldc_w 428, 3) := by decide +kernel
theorem dX10_worth_35 : decode cX10_worth 35 = .ok (.ireturn, 1) := by decide +kernel
theorem dX10_worth_36 : decode cX10_worth 36 = .ok (.aload_n 0, 1) := by decide +kernel
theorem dX10_worth_37 : decode cX10_worth 37 = .ok (.bipush 115, 2) := by decide +kernel
theorem dX10_worth_39 : decode cX10_worth 39 = .ok (.iload_n 2, 1) := by decide +kernel
theorem dX10_worth_40 : decode cX10_worth 40 = .ok (.invokevirtual 429, 3) := by decide +kernel
theorem dX10_worth_43 : decode cX10_worth 43 = .ok (.aload_n 0, 1) := by decide +kernel
theorem dX10_worth_44 : decode cX10_worth 44 = .ok (.bipush 115, 2) := by decide +kernel
theorem dX10_worth_46 : decode cX10_worth 46 = .ok (.iload_n 1, 1) := by decide +kernel
theorem dX10_worth_47 : decode cX10_worth 47 = .ok (.invokevirtual 429, 3) := by decide +kernel
theorem dX10_worth_50 : decode cX10_worth 50 = .ok (.invokestatic 432, 3) := by decide +kernel
theorem dX10_worth_53 : decode cX10_worth 53 = .ok (.ireturn, 1) := by decide +kernel
theorem dX10_keep_0 : decode cX10_keep 0 = .ok (.aload_n 0, 1) := by decide +kernel
theorem dX10_keep_1 : decode cX10_keep 1 = .ok (.iconst 0, 1) := by decide +kernel
theorem dX10_keep_2 : decode cX10_keep 2 = .ok (.putfield 1, 3) := by decide +kernel
theorem dX10_keep_5 : decode cX10_keep 5 = .ok (.aload_n 0, 1) := by decide +kernel
theorem dX10_keep_6 : decode cX10_keep 6 = .ok (.invokevirtual 281, 3) := by decide +kernel
theorem dX10_keep_9 : decode cX10_keep 9 = .ok (.ifCond .ne 5, 3) := by decide +kernel
theorem dX10_keep_12 : decode cX10_keep 12 = .ok (.iconst 0, 1) := by decide +kernel
theorem dX10_keep_13 : decode cX10_keep 13 = .ok (.ireturn, 1) := by decide +kernel
theorem dX10_keep_14 : decode cX10_keep 14 = .ok (.aload_n 0, 1) := by decide +kernel
theorem dX10_keep_15 : decode cX10_keep 15 = .ok (.getfield 37, 3) := by decide +kernel
theorem dX10_keep_18 : decode cX10_keep 18 = .ok (.sipush 128, 3) := by decide +kernel
theorem dX10_keep_21 : decode cX10_keep 21 = .ok (.iconst 1, 1) := by decide +kernel
theorem dX10_keep_22 : decode cX10_keep 22 = .ok (.iastore, 1) := by decide +kernel
theorem dX10_keep_23 : decode cX10_keep 23 = .ok (.iconst 0, 1) := by decide +kernel
theorem dX10_keep_24 : decode cX10_keep 24 = .ok (.istore_n 1, 1) := by decide +kernel
theorem dX10_keep_25 : decode cX10_keep 25 = .ok (.iload_n 1, 1) := by decide +kernel
theorem dX10_keep_26 : decode cX10_keep 26 = .ok (.bipush 24, 2) := by decide +kernel
theorem dX10_keep_28 : decode cX10_keep 28 = .ok (.if_icmp .ge 28, 3) := by decide +kernel
theorem dX10_keep_31 : decode cX10_keep 31 = .ok (.aload_n 0, 1) := by decide +kernel
theorem dX10_keep_32 : decode cX10_keep 32 = .ok (.getfield 37, 3) := by decide +kernel
theorem dX10_keep_35 : decode cX10_keep 35 = .ok (.sipush 129, 3) := by decide +kernel
theorem dX10_keep_38 : decode cX10_keep 38 = .ok (.iload_n 1, 1) := by decide +kernel
theorem dX10_keep_39 : decode cX10_keep 39 = .ok (.iadd, 1) := by decide +kernel
theorem dX10_keep_40 : decode cX10_keep 40 = .ok (.aload_n 0, 1) := by decide +kernel
theorem dX10_keep_41 : decode cX10_keep 41 = .ok (.getfield 37, 3) := by decide +kernel
theorem dX10_keep_44 : decode cX10_keep 44 = .ok (.bipush 104, 2) := by decide +kernel
theorem dX10_keep_46 : decode cX10_keep 46 = .ok (.iload_n 1, 1) := by decide +kernel
theorem dX10_keep_47 : decode cX10_keep 47 = .ok (.iadd, 1) := by decide +kernel
theorem dX10_keep_48 : decode cX10_keep 48 = .ok (.iaload, 1) := by decide +kernel
theorem dX10_keep_49 : decode cX10_keep 49 = .ok (.iastore, 1) := by decide +kernel
theorem dX10_keep_50 : decode cX10_keep 50 = .ok (.iinc 1 1, 3) := by decide +kernel
theorem dX10_keep_53 : decode cX10_keep 53 = .ok (.goto (-28), 3) := by decide +kernel
theorem dX10_keep_56 : decode cX10_keep 56 = .ok (.iconst 1, 1) := by decide +kernel
theorem dX10_keep_57 : decode cX10_keep 57 = .ok (.ireturn, 1) := by decide +kernel
theorem dX10_lost_0 : decode cX10_lost 0 = .ok (.aload_n 0, 1) := by decide +kernel
theorem dX10_lost_1 : decode cX10_lost 1 = .ok (.iconst 0, 1) := by decide +kernel
theorem dX10_lost_2 : decode cX10_lost 2 = .ok (.putfield 1, 3) := by decide +kernel
theorem dX10_lost_5 : decode cX10_lost 5 = .ok (.aload_n 0, 1) := by decide +kernel
theorem dX10_lost_6 : decode cX10_lost 6 = .ok (.invokevirtual 281, 3) := by decide +kernel
theorem dX10_lost_9 : decode cX10_lost 9 = .ok (.ifCond .eq 23, 3) := by decide +kernel
theorem dX10_lost_12 : decode cX10_lost 12 = .ok (.aload_n 0, 1) := by decide +kernel
theorem dX10_lost_13 : decode cX10_lost 13 = .ok (.getfield 37, 3) := by decide +kernel
theorem dX10_lost_16 : decode cX10_lost 16 = .ok (.sipush 128, 3) := by decide +kernel
theorem dX10_lost_19 : decode cX10_lost 19 = .ok (.iaload, 1) := by decide +kernel
theorem dX10_lost_20 : decode cX10_lost 20 = .ok (.ifCond .eq 12, 3) := by decide +kernel
theorem dX10_lost_23 : decode cX10_lost 23 = .ok (.iload_n 1, 1) := by decide +kernel
theorem dX10_lost_24 : decode cX10_lost 24 = .ok (.iconst 0, 1) := by decide +kernel
theorem dX10_lost_25 : decode cX10_lost 25 = .ok (.iconst 3, 1) := by decide +kernel
theorem dX10_lost_26 : decode cX10_lost 26 = .ok (.invokestatic 211, 3) := by decide +kernel
theorem dX10_lost_29 : decode cX10_lost 29 = .ok (.ifCond .ne 7, 3) := by decide +kernel
theorem dX10_lost_32 : decode cX10_lost 32 = .ok (.ldc_w 428, 3) := by decide +kernel
theorem dX10_lost_35 : decode cX10_lost 35 = .ok (.ireturn, 1) := by decide +kernel
theorem dX10_lost_36 : decode cX10_lost 36 = .ok (.aload_n 0, 1) := by decide +kernel
theorem dX10_lost_37 : decode cX10_lost 37 = .ok (.invokevirtual 368, 3) := by decide +kernel
theorem dX10_lost_40 : decode cX10_lost 40 = .ok (.istore_n 2, 1) := by decide +kernel
theorem dX10_lost_41 : decode cX10_lost 41 = .ok (.aload_n 0, 1) := by decide +kernel
theorem dX10_lost_42 : decode cX10_lost 42 = .ok (.getfield 314, 3) := by decide +kernel
theorem dX10_lost_45 : decode cX10_lost 45 = .ok (.istore_n 3, 1) := by decide +kernel
theorem dX10_lost_46 : decode cX10_lost 46 = .ok (.aload_n 0, 1) := by decide +kernel
theorem dX10_lost_47 : decode cX10_lost 47 = .ok (.getfield 337, 3) := by decide +kernel
theorem dX10_lost_50 : decode cX10_lost 50 = .ok (.istore 4, 2) := by decide +kernel
theorem dX10_lost_52 : decode cX10_lost 52 = .ok (.aload_n 0, 1) := by decide +kernel
theorem dX10_lost_53 : decode cX10_lost 53 = .ok (.invokevirtual 419, 3) := by decide +kernel
theorem dX10_lost_56 : decode cX10_lost 56 = .ok (.iconst 0, 1) := by decide +kernel
theorem dX10_lost_57 : decode cX10_lost 57 = .ok (.istore 5, 2) := by decide +kernel
theorem dX10_lost_59 : decode cX10_lost 59 = .ok (.iload 5, 2) := by decide +kernel
theorem dX10_lost_61 : decode cX10_lost 61 = .ok (.bipush 24, 2) := by decide +kernel
theorem dX10_lost_63 : decode cX10_lost 63 = .ok (.if_icmp .ge 30, 3) := by decide +kernel
theorem dX10_lost_66 : decode cX10_lost 66 = .ok (.aload_n 0, 1) := by decide +kernel
theorem dX10_lost_67 : decode cX10_lost 67 = .ok (.getfield 37, 3) := by decide +kernel
theorem dX10_lost_70 : decode cX10_lost 70 = .ok (.bipush 104, 2) := by decide +kernel
theorem dX10_lost_72 : decode cX10_lost 72 = .ok (.iload 5, 2) := by decide +kernel
theorem dX10_lost_74 : decode cX10_lost 74 = .ok (.iadd, 1) := by decide +kernel
theorem dX10_lost_75 : decode cX10_lost 75 = .ok (.aload_n 0, 1) := by decide +kernel
theorem dX10_lost_76 : decode cX10_lost 76 = .ok (.getfield 37, 3) := by decide +kernel
theorem dX10_lost_79 : decode cX10_lost 79 = .ok (.sipush 129, 3) := by decide +kernel
theorem dX10_lost_82 : decode cX10_lost 82 = .ok (.iload 5, 2) := by decide +kernel
theorem dX10_lost_84 : decode cX10_lost 84 = .ok (.iadd, 1) := by decide +kernel
theorem dX10_lost_85 : decode cX10_lost 85 = .ok (.iaload, 1) := by decide +kernel
theorem dX10_lost_86 : decode cX10_lost 86 = .ok (.iastore, 1) := by decide +kernel
theorem dX10_lost_87 : decode cX10_lost 87 = .ok (.iinc 5 1, 3) := by decide +kernel
theorem dX10_lost_90 : decode cX10_lost 90 = .ok (.goto (-31), 3) := by decide +kernel
theorem dX10_lost_93 : decode cX10_lost 93 = .ok (.aload_n 0, 1) := by decide +kernel
theorem dX10_lost_94 : decode cX10_lost 94 = .ok (.invokevirtual 368, 3) := by decide +kernel
theorem dX10_lost_97 : decode cX10_lost 97 = .ok (.istore 5, 2) := by decide +kernel
theorem dX10_lost_99 : decode cX10_lost 99 = .ok (.aload_n 0, 1) := by decide +kernel
theorem dX10_lost_100 : decode cX10_lost 100 = .ok (.getfield 314, 3) := by decide +kernel
theorem dX10_lost_103 : decode cX10_lost 103 = .ok (.istore 6, 2) := by decide +kernel
theorem dX10_lost_105 : decode cX10_lost 105 = .ok (.aload_n 0, 1) := by decide +kernel
theorem dX10_lost_106 : decode cX10_lost 106 = .ok (.iload 4, 2) := by decide +kernel
theorem dX10_lost_108 : decode cX10_lost 108 = .ok (.aload_n 0, 1) := by decide +kernel
theorem dX10_lost_109 : decode cX10_lost 109 = .ok (.invokevirtual 343, 3) := by decide +kernel
theorem dX10_lost_112 : decode cX10_lost 112 = .ok (.invokevirtual 365, 3) := by decide +kernel
theorem dX10_lost_115 : decode cX10_lost 115 = .ok (.istore 7, 2) := by decide +kernel
theorem dX10_lost_117 : decode cX10_lost 117 = .ok (.aload_n 0, 1) := by decide +kernel
theorem dX10_lost_118 : decode cX10_lost 118 = .ok (.invokevirtual 425, 3) := by decide +kernel
theorem dX10_lost_121 : decode cX10_lost 121 = .ok (.iload_n 2, 1) := by decide +kernel
theorem dX10_lost_122 : decode cX10_lost 122 = .ok (.ifCond .lt 13, 3) := by decide +kernel
theorem dX10_lost_125 : decode cX10_lost 125 = .ok (.iload 5, 2) := by decide +kernel
theorem dX10_lost_127 : decode cX10_lost 127 = .ok (.ifCond .lt 8, 3) := by decide +kernel
theorem dX10_lost_130 : decode cX10_lost 130 = .ok (.iload 7, 2) := by decide +kernel
theorem dX10_lost_132 : decode cX10_lost 132 = .ok (.ifCond .ge 7, 3) := by decide +kernel
theorem dX10_lost_135 : decode cX10_lost 135 = .ok (.ldc_w 428, 3) := by decide +kernel
theorem dX10_lost_138 : decode cX10_lost 138 = .ok (.ireturn, 1) := by decide +kernel
theorem dX10_lost_139 : decode cX10_lost 139 = .ok (.iload_n 2, 1) := by decide +kernel
theorem dX10_lost_140 : decode cX10_lost 140 = .ok (.iload 5, 2) := by decide +kernel
theorem dX10_lost_142 : decode cX10_lost 142 = .ok (.isub, 1) := by decide +kernel
theorem dX10_lost_143 : decode cX10_lost 143 = .ok (.istore 8, 2) := by decide +kernel
theorem dX10_lost_145 : decode cX10_lost 145 = .ok (.iload_n 3, 1) := by decide +kernel
theorem dX10_lost_146 : decode cX10_lost 146 = .ok (.iload 6, 2) := by decide +kernel
theorem dX10_lost_148 : decode cX10_lost 148 = .ok (.isub, 1) := by decide +kernel
theorem dX10_lost_149 : decode cX10_lost 149 = .ok (.istore 9, 2) := by decide +kernel
theorem dX10_lost_151 : decode cX10_lost 151 = .ok (.iload 7, 2) := by decide +kernel
theorem dX10_lost_153 : decode cX10_lost 153 = .ok (.iload 5, 2) := by decide +kernel
theorem dX10_lost_155 : decode cX10_lost 155 = .ok (.iload 6, 2) := by decide +kernel
theorem dX10_lost_157 : decode cX10_lost 157 = .ok (.isub, 1) := by decide +kernel
theorem dX10_lost_158 : decode cX10_lost 158 = .ok (.isub, 1) := by decide +kernel
theorem dX10_lost_159 : decode cX10_lost 159 = .ok (.istore 10, 2) := by decide +kernel
theorem dX10_lost_161 : decode cX10_lost 161 = .ok (.iload_n 1, 1) := by decide +kernel
theorem dX10_lost_162 : decode cX10_lost 162 = .ok (.ifCond .ne 8, 3) := by decide +kernel
theorem dX10_lost_165 : decode cX10_lost 165 = .ok (.iload 9, 2) := by decide +kernel
theorem dX10_lost_167 : decode cX10_lost 167 = .ok (.goto 31, 3) := by decide +kernel
theorem dX10_lost_170 : decode cX10_lost 170 = .ok (.iload_n 1, 1) := by decide +kernel
theorem dX10_lost_171 : decode cX10_lost 171 = .ok (.iconst 1, 1) := by decide +kernel
theorem dX10_lost_172 : decode cX10_lost 172 = .ok (.if_icmp .ne 8, 3) := by decide +kernel
theorem dX10_lost_175 : decode cX10_lost 175 = .ok (.iload 10, 2) := by decide +kernel
theorem dX10_lost_177 : decode cX10_lost 177 = .ok (.goto 21, 3) := by decide +kernel
theorem dX10_lost_180 : decode cX10_lost 180 = .ok (.iload_n 1, 1) := by decide +kernel
theorem dX10_lost_181 : decode cX10_lost 181 = .ok (.iconst 2, 1) := by decide +kernel
theorem dX10_lost_182 : decode cX10_lost 182 = .ok (.if_icmp .ne 14, 3) := by decide +kernel
theorem dX10_lost_185 : decode cX10_lost 185 = .ok (.iload 8, 2) := by decide +kernel
theorem dX10_lost_187 : decode cX10_lost 187 = .ok (.iload 9, 2) := by decide +kernel
theorem dX10_lost_189 : decode cX10_lost 189 = .ok (.isub, 1) := by decide +kernel
theorem dX10_lost_190 : decode cX10_lost 190 = .ok (.iload 10, 2) := by decide +kernel
theorem dX10_lost_192 : decode cX10_lost 192 = .ok (.isub, 1) := by decide +kernel
theorem dX10_lost_193 : decode cX10_lost 193 = .ok (.goto 5, 3) := by decide +kernel
theorem dX10_lost_196 : decode cX10_lost 196 = .ok (.iload 8, 2) := by decide +kernel
theorem dX10_lost_198 : decode cX10_lost 198 = .ok (.ireturn, 1) := by decide +kernel
theorem dX10_touch_0 : decode cX10_touch 0 = .ok (.aload_n 0, 1) := by decide +kernel
theorem dX10_touch_1 : decode cX10_touch 1 = .ok (.iconst 0, 1) := by decide +kernel
theorem dX10_touch_2 : decode cX10_touch 2 = .ok (.putfield 1, 3) := by decide +kernel
theorem dX10_touch_5 : decode cX10_touch 5 = .ok (.aload_n 0, 1) := by decide +kernel
theorem dX10_touch_6 : decode cX10_touch 6 = .ok (.invokevirtual 281, 3) := by decide +kernel
theorem dX10_touch_9 : decode cX10_touch 9 = .ok (.ifCond .eq 21, 3) := by decide +kernel
theorem dX10_touch_12 : decode cX10_touch 12 = .ok (.aload_n 0, 1) := by decide +kernel
theorem dX10_touch_13 : decode cX10_touch 13 = .ok (.iload_n 1, 1) := by decide +kernel
theorem dX10_touch_14 : decode cX10_touch 14 = .ok (.invokevirtual 292, 3) := by decide +kernel
theorem dX10_touch_17 : decode cX10_touch 17 = .ok (.ifCond .eq 13, 3) := by decide +kernel
theorem dX10_touch_20 : decode cX10_touch 20 = .ok (.iload_n 2, 1) := by decide +kernel
theorem dX10_touch_21 : decode cX10_touch 21 = .ok (.iconst 1, 1) := by decide +kernel
theorem dX10_touch_22 : decode cX10_touch 22 = .ok (.bipush 99, 2) := by decide +kernel
theorem dX10_touch_24 : decode cX10_touch 24 = .ok (.invokestatic 211, 3) := by decide +kernel
theorem dX10_touch_27 : decode cX10_touch 27 = .ok (.ifCond .ne 7, 3) := by decide +kernel
theorem dX10_touch_30 : decode cX10_touch 30 = .ok (.ldc_w 428, 3) := by decide +kernel
theorem dX10_touch_33 : decode cX10_touch 33 = .ok (.ireturn, 1) := by decide +kernel
theorem dX10_touch_34 : decode cX10_touch 34 = .ok (.aload_n 0, 1) := by decide +kernel
theorem dX10_touch_35 : decode cX10_touch 35 = .ok (.invokevirtual 368, 3) := by decide +kernel
theorem dX10_touch_38 : decode cX10_touch 38 = .ok (.istore_n 3, 1) := by decide +kernel
theorem dX10_touch_39 : decode cX10_touch 39 = .ok (.aload_n 0, 1) := by decide +kernel
theorem dX10_touch_40 : decode cX10_touch 40 = .ok (.iload_n 1, 1) := by decide +kernel
theorem dX10_touch_41 : decode cX10_touch 41 = .ok (.putfield 66, 3) := by decide +kernel
theorem dX10_touch_44 : decode cX10_touch 44 = .ok (.aload_n 0, 1) := by decide +kernel
theorem dX10_touch_45 : decode cX10_touch 45 = .ok (.iload_n 2, 1) := by decide +kernel
theorem dX10_touch_46 : decode cX10_touch 46 = .ok (.putfield 362, 3) := by decide +kernel
theorem dX10_touch_49 : decode cX10_touch 49 = .ok (.aload_n 0, 1) := by decide +kernel
theorem dX10_touch_50 : decode cX10_touch 50 = .ok (.invokevirtual 368, 3) := by decide +kernel
theorem dX10_touch_53 : decode cX10_touch 53 = .ok (.istore 4, 2) := by decide +kernel
theorem dX10_touch_55 : decode cX10_touch 55 = .ok (.aload_n 0, 1) := by decide +kernel
theorem dX10_touch_56 : decode cX10_touch 56 = .ok (.iconst (-1), 1) := by decide +kernel
theorem dX10_touch_57 : decode cX10_touch 57 = .ok (.putfield 66, 3) := by decide +kernel
theorem dX10_touch_60 : decode cX10_touch 60 = .ok (.iload 4, 2) := by decide +kernel
theorem dX10_touch_62 : decode cX10_touch 62 = .ok (.iload_n 3, 1) := by decide +kernel
theorem dX10_touch_63 : decode cX10_touch 63 = .ok (.invokestatic 432, 3) := by decide +kernel
theorem dX10_touch_66 : decode cX10_touch 66 = .ok (.ireturn, 1) := by decide +kernel
theorem dX10_drawn_0 : decode cX10_drawn 0 = .ok (.aload_n 0, 1) := by decide +kernel
theorem dX10_drawn_1 : decode cX10_drawn 1 = .ok (.iconst 0, 1) := by decide +kernel
theorem dX10_drawn_2 : decode cX10_drawn 2 = .ok (.putfield 1, 3) := by decide +kernel
theorem dX10_drawn_5 : decode cX10_drawn 5 = .ok (.aload_n 0, 1) := by decide +kernel
theorem dX10_drawn_6 : decode cX10_drawn 6 = .ok (.invokevirtual 281, 3) := by decide +kernel
theorem dX10_drawn_9 : decode cX10_drawn 9 = .ok (.ifCond .eq 11, 3) := by decide +kernel
theorem dX10_drawn_12 : decode cX10_drawn 12 = .ok (.aload_n 0, 1) := by decide +kernel
theorem dX10_drawn_13 : decode cX10_drawn 13 = .ok (.iload_n 1, 1) := by decide +kernel
theorem dX10_drawn_14 : decode cX10_drawn 14 = .ok (.invokevirtual 438, 3) := by decide +kernel
theorem dX10_drawn_17 : decode cX10_drawn 17 = .ok (.goto 4, 3) := by decide +kernel
theorem dX10_drawn_20 : decode cX10_drawn 20 = .ok (.iconst (-1), 1) := by decide +kernel
theorem dX10_drawn_21 : decode cX10_drawn 21 = .ok (.ireturn, 1) := by decide +kernel
theorem dX10_odds_0 : decode cX10_odds 0 = .ok (.aload_n 0, 1) := by decide +kernel
theorem dX10_odds_1 : decode cX10_odds 1 = .ok (.iconst 0, 1) := by decide +kernel
theorem dX10_odds_2 : decode cX10_odds 2 = .ok (.putfield 1, 3) := by decide +kernel
theorem dX10_odds_5 : decode cX10_odds 5 = .ok (.aload_n 0, 1) := by decide +kernel
theorem dX10_odds_6 : decode cX10_odds 6 = .ok (.invokevirtual 281, 3) := by decide +kernel
theorem dX10_odds_9 : decode cX10_odds 9 = .ok (.ifCond .eq 13, 3) := by decide +kernel
theorem dX10_odds_12 : decode cX10_odds 12 = .ok (.iload_n 1, 1) := by decide +kernel
theorem dX10_odds_13 : decode cX10_odds 13 = .ok (.iconst 1, 1) := by decide +kernel
theorem dX10_odds_14 : decode cX10_odds 14 = .ok (.bipush 60, 2) := by decide +kernel
theorem dX10_odds_16 : decode cX10_odds 16 = .ok (.invokestatic 211, 3) := by decide +kernel
theorem dX10_odds_19 : decode cX10_odds 19 = .ok (.ifCond .ne 5, 3) := by decide +kernel
theorem dX10_odds_22 : decode cX10_odds 22 = .ok (.iconst (-1), 1) := by decide +kernel
theorem dX10_odds_23 : decode cX10_odds 23 = .ok (.ireturn, 1) := by decide +kernel
theorem dX10_odds_24 : decode cX10_odds 24 = .ok (.iconst 0, 1) := by decide +kernel
theorem dX10_odds_25 : decode cX10_odds 25 = .ok (.istore 4, 2) := by decide +kernel
theorem dX10_odds_27 : decode cX10_odds 27 = .ok (.iconst 0, 1) := by decide +kernel
theorem dX10_odds_28 : decode cX10_odds 28 = .ok (.istore 5, 2) := by decide +kernel
theorem dX10_odds_30 : decode cX10_odds 30 = .ok (.iload 5, 2) := by decide +kernel
theorem dX10_odds_32 : decode cX10_odds 32 = .ok (.iload_n 1, 1) := by decide +kernel
theorem dX10_odds_33 : decode cX10_odds 33 = .ok (.if_icmp .ge 40, 3) := by decide +kernel
theorem dX10_odds_36 : decode cX10_odds 36 = .ok (.aload_n 0, 1) := by decide +kernel
theorem dX10_odds_37 : decode cX10_odds 37 = .ok (.iload_n 2, 1) := by decide +kernel
theorem dX10_odds_38 : decode cX10_odds 38 = .ok (.iload 5, 2) := by decide +kernel
theorem dX10_odds_40 : decode cX10_odds 40 = .ok (.iadd, 1) := by decide +kernel
theorem dX10_odds_41 : decode cX10_odds 41 = .ok (.invokevirtual 438, 3) := by decide +kernel
theorem dX10_odds_44 : decode cX10_odds 44 = .ok (.istore 6, 2) := by decide +kernel
theorem dX10_odds_46 : decode cX10_odds 46 = .ok (.iload 4, 2) := by decide +kernel
theorem dX10_odds_48 : decode cX10_odds 48 = .ok (.iload 6, 2) := by decide +kernel
theorem dX10_odds_50 : decode cX10_odds 50 = .ok (.ifCond .lt 13, 3) := by decide +kernel
theorem dX10_odds_53 : decode cX10_odds 53 = .ok (.iload 6, 2) := by decide +kernel
theorem dX10_odds_55 : decode cX10_odds 55 = .ok (.iload_n 3, 1) := by decide +kernel
theorem dX10_odds_56 : decode cX10_odds 56 = .ok (.if_icmp .ge 7, 3) := by decide +kernel
theorem dX10_odds_59 : decode cX10_odds 59 = .ok (.iconst 1, 1) := by decide +kernel
theorem dX10_odds_60 : decode cX10_odds 60 = .ok (.goto 4, 3) := by decide +kernel
theorem dX10_odds_63 : decode cX10_odds 63 = .ok (.iconst 0, 1) := by decide +kernel
theorem dX10_odds_64 : decode cX10_odds 64 = .ok (.iadd, 1) := by decide +kernel
theorem dX10_odds_65 : decode cX10_odds 65 = .ok (.istore 4, 2) := by decide +kernel
theorem dX10_odds_67 : decode cX10_odds 67 = .ok (.iinc 5 1, 3) := by decide +kernel
theorem dX10_odds_70 : decode cX10_odds 70 = .ok (.goto (-40), 3) := by decide +kernel
theorem dX10_odds_73 : decode cX10_odds 73 = .ok (.iload 4, 2) := by decide +kernel
theorem dX10_odds_75 : decode cX10_odds 75 = .ok (.ireturn, 1) := by decide +kernel
theorem dX10_room_0 : decode cX10_room 0 = .ok (.aload_n 0, 1) := by decide +kernel
theorem dX10_room_1 : decode cX10_room 1 = .ok (.iconst 0, 1) := by decide +kernel
theorem dX10_room_2 : decode cX10_room 2 = .ok (.putfield 1, 3) := by decide +kernel
theorem dX10_room_5 : decode cX10_room 5 = .ok (.aload_n 0, 1) := by decide +kernel
theorem dX10_room_6 : decode cX10_room 6 = .ok (.invokevirtual 281, 3) := by decide +kernel
theorem dX10_room_9 : decode cX10_room 9 = .ok (.ifCond .ne 5, 3) := by decide +kernel
theorem dX10_room_12 : decode cX10_room 12 = .ok (.iconst (-1), 1) := by decide +kernel
theorem dX10_room_13 : decode cX10_room 13 = .ok (.ireturn, 1) := by decide +kernel
theorem dX10_room_14 : decode cX10_room 14 = .ok (.aload_n 0, 1) := by decide +kernel
theorem dX10_room_15 : decode cX10_room 15 = .ok (.invokevirtual 340, 3) := by decide +kernel
theorem dX10_room_18 : decode cX10_room 18 = .ok (.aload_n 0, 1) := by decide +kernel
theorem dX10_room_19 : decode cX10_room 19 = .ok (.getfield 37, 3) := by decide +kernel
theorem dX10_room_22 : decode cX10_room 22 = .ok (.iconst 2, 1) := by decide +kernel
theorem dX10_room_23 : decode cX10_room 23 = .ok (.iaload, 1) := by decide +kernel
theorem dX10_room_24 : decode cX10_room 24 = .ok (.aload_n 0, 1) := by decide +kernel
theorem dX10_room_25 : decode cX10_room 25 = .ok (.getfield 37, 3) := by decide +kernel
theorem dX10_room_28 : decode cX10_room 28 = .ok (.iconst 1, 1) := by decide +kernel
theorem dX10_room_29 : decode cX10_room 29 = .ok (.iaload, 1) := by decide +kernel
theorem dX10_room_30 : decode cX10_room 30 = .ok (.isub, 1) := by decide +kernel
theorem dX10_room_31 : decode cX10_room 31 = .ok (.aload_n 0, 1) := by decide +kernel
theorem dX10_room_32 : decode cX10_room 32 = .ok (.aload_n 0, 1) := by decide +kernel
theorem dX10_room_33 : decode cX10_room 33 = .ok (.getfield 317, 3) := by decide +kernel
theorem dX10_room_36 : decode cX10_room 36 = .ok (.invokevirtual 308, 3) := by decide +kernel
theorem dX10_room_39 : decode cX10_room 39 = .ok (.isub, 1) := by decide +kernel
theorem dX10_room_40 : decode cX10_room 40 = .ok (.istore_n 1, 1) := by decide +kernel
theorem dX10_room_41 : decode cX10_room 41 = .ok (.iload_n 1, 1) := by decide +kernel
theorem dX10_room_42 : decode cX10_room 42 = .ok (.ifCond .ge 7, 3) := by decide +kernel
theorem dX10_room_45 : decode cX10_room 45 = .ok (.iconst (-1), 1) := by decide +kernel
theorem dX10_room_46 : decode cX10_room 46 = .ok (.goto 9, 3) := by decide +kernel
theorem dX10_room_49 : decode cX10_room 49 = .ok (.iload_n 1, 1) := by decide +kernel
theorem dX10_room_50 : decode cX10_room 50 = .ok (.bipush 99, 2) := by decide +kernel
theorem dX10_room_52 : decode cX10_room 52 = .ok (.invokestatic 27, 3) := by decide +kernel
theorem dX10_room_55 : decode cX10_room 55 = .ok (.ireturn, 1) := by decide +kernel
theorem dX10_leafOf_0 : decode cX10_leafOf 0 = .ok (.aload_n 0, 1) := by decide +kernel
theorem dX10_leafOf_1 : decode cX10_leafOf 1 = .ok (.ldc2_w 136, 3) := by decide +kernel
theorem dX10_leafOf_4 : decode cX10_leafOf 4 = .ok (.invokevirtual 225, 3) := by decide +kernel
theorem dX10_leafOf_7 : decode cX10_leafOf 7 = .ok (.ifCond .eq 7, 3) := by decide +kernel
theorem dX10_leafOf_10 : decode cX10_leafOf 10 = .ok (.iconst 0, 1) := by decide +kernel
theorem dX10_leafOf_11 : decode cX10_leafOf 11 = .ok (.goto 89, 3) := by decide +kernel
theorem dX10_leafOf_14 : decode cX10_leafOf 14 = .ok (.aload_n 0, 1) := by decide +kernel
theorem dX10_leafOf_15 : decode cX10_leafOf 15 = .ok (.ldc2_w 154, 3) := by decide +kernel
theorem dX10_leafOf_18 : decode cX10_leafOf 18 = .ok (.invokevirtual 225, 3) := by decide +kernel
theorem dX10_leafOf_21 : decode cX10_leafOf 21 = .ok (.ifCond .eq 7, 3) := by decide +kernel
theorem dX10_leafOf_24 : decode cX10_leafOf 24 = .ok (.iconst 1, 1) := by decide +kernel
theorem dX10_leafOf_25 : decode cX10_leafOf 25 = .ok (.goto 75, 3) := by decide +kernel
theorem dX10_leafOf_28 : decode cX10_leafOf 28 = .ok (.aload_n 0, 1) := by decide +kernel
theorem dX10_leafOf_29 : decode cX10_leafOf 29 = .ok (.ldc2_w 156, 3) := by decide +kernel
theorem dX10_leafOf_32 : decode cX10_leafOf 32 = .ok (.invokevirtual 225, 3) := by decide +kernel
theorem dX10_leafOf_35 : decode cX10_leafOf 35 = .ok (.ifCond .eq 7, 3) := by decide +kernel
theorem dX10_leafOf_38 : decode cX10_leafOf 38 = .ok (.iconst 2, 1) := by decide +kernel
theorem dX10_leafOf_39 : decode cX10_leafOf 39 = .ok (.goto 61, 3) := by decide +kernel
theorem dX10_leafOf_42 : decode cX10_leafOf 42 = .ok (.aload_n 0, 1) := by decide +kernel
theorem dX10_leafOf_43 : decode cX10_leafOf 43 = .ok (.ldc2_w 158, 3) := by decide +kernel
theorem dX10_leafOf_46 : decode cX10_leafOf 46 = .ok (.invokevirtual 225, 3) := by decide +kernel
theorem dX10_leafOf_49 : decode cX10_leafOf 49 = .ok (.ifCond .eq 7, 3) := by decide +kernel
theorem dX10_leafOf_52 : decode cX10_leafOf 52 = .ok (.iconst 3, 1) := by decide +kernel
theorem dX10_leafOf_53 : decode cX10_leafOf 53 = .ok (.goto 47, 3) := by decide +kernel
theorem dX10_leafOf_56 : decode cX10_leafOf 56 = .ok (.aload_n 0, 1) := by decide +kernel
theorem dX10_leafOf_57 : decode cX10_leafOf 57 = .ok (.ldc2_w 160, 3) := by decide +kernel
theorem dX10_leafOf_60 : decode cX10_leafOf 60 = .ok (.invokevirtual 225, 3) := by decide +kernel
theorem dX10_leafOf_63 : decode cX10_leafOf 63 = .ok (.ifCond .eq 7, 3) := by decide +kernel
theorem dX10_leafOf_66 : decode cX10_leafOf 66 = .ok (.iconst 4, 1) := by decide +kernel
theorem dX10_leafOf_67 : decode cX10_leafOf 67 = .ok (.goto 33, 3) := by decide +kernel
theorem dX10_leafOf_70 : decode cX10_leafOf 70 = .ok (.aload_n 0, 1) := by decide +kernel
theorem dX10_leafOf_71 : decode cX10_leafOf 71 = .ok (.ldc2_w 162, 3) := by decide +kernel
theorem dX10_leafOf_74 : decode cX10_leafOf 74 = .ok (.invokevirtual 225, 3) := by decide +kernel
theorem dX10_leafOf_77 : decode cX10_leafOf 77 = .ok (.ifCond .eq 7, 3) := by decide +kernel
theorem dX10_leafOf_80 : decode cX10_leafOf 80 = .ok (.iconst 5, 1) := by decide +kernel
theorem dX10_leafOf_81 : decode cX10_leafOf 81 = .ok (.goto 19, 3) := by decide +kernel
theorem dX10_leafOf_84 : decode cX10_leafOf 84 = .ok (.aload_n 0, 1) := by decide +kernel
theorem dX10_leafOf_85 : decode cX10_leafOf 85 = .ok (.ldc2_w 164, 3) := by decide +kernel
theorem dX10_leafOf_88 : decode cX10_leafOf 88 = .ok (.invokevirtual 225, 3) := by decide +kernel
theorem dX10_leafOf_91 : decode cX10_leafOf 91 = .ok (.ifCond .eq 8, 3) := by decide +kernel
theorem dX10_leafOf_94 : decode cX10_leafOf 94 = .ok (.bipush 6, 2) := by decide +kernel
theorem dX10_leafOf_96 : decode cX10_leafOf 96 = .ok (.goto 4, 3) := by decide +kernel
theorem dX10_leafOf_99 : decode cX10_leafOf 99 = .ok (.iconst (-1), 1) := by decide +kernel
theorem dX10_leafOf_100 : decode cX10_leafOf 100 = .ok (.ireturn, 1) := by decide +kernel
theorem dX10_operand_0 : decode cX10_operand 0 = .ok (.aload_n 0, 1) := by decide +kernel
theorem dX10_operand_1 : decode cX10_operand 1 = .ok (.ldc2_w 152, 3) := by decide +kernel
theorem dX10_operand_4 : decode cX10_operand 4 = .ok (.invokevirtual 225, 3) := by decide +kernel
theorem dX10_operand_7 : decode cX10_operand 7 = .ok (.istore_n 1, 1) := by decide +kernel
theorem dX10_operand_8 : decode cX10_operand 8 = .ok (.aload_n 0, 1) := by decide +kernel
theorem dX10_operand_9 : decode cX10_operand 9 = .ok (.bipush 40, 2) := by decide +kernel
theorem dX10_operand_11 : decode cX10_operand 11 = .ok (.invokevirtual 202, 3) := by decide +kernel
theorem dX10_operand_14 : decode cX10_operand 14 = .ok (.istore_n 2, 1) := by decide +kernel
theorem dX10_operand_15 : decode cX10_operand 15 = .ok (.aload_n 0, 1) := by decide +kernel
theorem dX10_operand_16 : decode cX10_operand 16 = .ok (.invokevirtual 454, 3) := by decide +kernel
theorem dX10_operand_19 : decode cX10_operand 19 = .ok (.istore_n 3, 1) := by decide +kernel
theorem dX10_operand_20 : decode cX10_operand 20 = .ok (.iload_n 1, 1) := by decide +kernel
theorem dX10_operand_21 : decode cX10_operand 21 = .ok (.ifCond .ne 17, 3) := by decide +kernel
theorem dX10_operand_24 : decode cX10_operand 24 = .ok (.iload_n 2, 1) := by decide +kernel
theorem dX10_operand_25 : decode cX10_operand 25 = .ok (.ifCond .ne 13, 3) := by decide +kernel
theorem dX10_operand_28 : decode cX10_operand 28 = .ok (.iload_n 3, 1) := by decide +kernel
theorem dX10_operand_29 : decode cX10_operand 29 = .ok (.ifCond .ge 9, 3) := by decide +kernel
theorem dX10_operand_32 : decode cX10_operand 32 = .ok (.aload_n 0, 1) := by decide +kernel
theorem dX10_operand_33 : decode cX10_operand 33 = .ok (.iconst 1, 1) := by decide +kernel
theorem dX10_operand_34 : decode cX10_operand 34 = .ok (.invokevirtual 205, 3) := by decide +kernel
theorem dX10_operand_37 : decode cX10_operand 37 = .ok (.ireturn, 1) := by decide +kernel
theorem dX10_operand_38 : decode cX10_operand 38 = .ok (.aload_n 0, 1) := by decide +kernel
theorem dX10_operand_39 : decode cX10_operand 39 = .ok (.getfield 457, 3) := by decide +kernel
theorem dX10_operand_42 : decode cX10_operand 42 = .ok (.bipush 20, 2) := by decide +kernel
theorem dX10_operand_44 : decode cX10_operand 44 = .ok (.if_icmp .eq 12, 3) := by decide +kernel
theorem dX10_operand_47 : decode cX10_operand 47 = .ok (.aload_n 0, 1) := by decide +kernel
theorem dX10_operand_48 : decode cX10_operand 48 = .ok (.getfield 451, 3) := by decide +kernel
theorem dX10_operand_51 : decode cX10_operand 51 = .ok (.bipush 8, 2) := by decide +kernel
theorem dX10_operand_53 : decode cX10_operand 53 = .ok (.if_icmp .le 9, 3) := by decide +kernel
theorem dX10_operand_56 : decode cX10_operand 56 = .ok (.aload_n 0, 1) := by decide +kernel
theorem dX10_operand_57 : decode cX10_operand 57 = .ok (.iconst 4, 1) := by decide +kernel
theorem dX10_operand_58 : decode cX10_operand 58 = .ok (.invokevirtual 205, 3) := by decide +kernel
theorem dX10_operand_61 : decode cX10_operand 61 = .ok (.ireturn, 1) := by decide +kernel
theorem dX10_operand_62 : decode cX10_operand 62 = .ok (.aload_n 0, 1) := by decide +kernel
theorem dX10_operand_63 : decode cX10_operand 63 = .ok (.dup, 1) := by decide +kernel
theorem dX10_operand_64 : decode cX10_operand 64 = .ok (.getfield 457, 3) := by decide +kernel
theorem dX10_operand_67 : decode cX10_operand 67 = .ok (.iconst 1, 1) := by decide +kernel
theorem dX10_operand_68 : decode cX10_operand 68 = .ok (.iadd, 1) := by decide +kernel
theorem dX10_operand_69 : decode cX10_operand 69 = .ok (.putfield 457, 3) := by decide +kernel
theorem dX10_operand_72 : decode cX10_operand 72 = .ok (.aload_n 0, 1) := by decide +kernel
theorem dX10_operand_73 : decode cX10_operand 73 = .ok (.invokevirtual 208, 3) := by decide +kernel
theorem dX10_operand_76 : decode cX10_operand 76 = .ok (.iload_n 1, 1) := by decide +kernel
theorem dX10_operand_77 : decode cX10_operand 77 = .ok (.ifCond .ne 7, 3) := by decide +kernel
theorem dX10_operand_80 : decode cX10_operand 80 = .ok (.iload_n 2, 1) := by decide +kernel
theorem dX10_operand_81 : decode cX10_operand 81 = .ok (.ifCond .eq 45, 3) := by decide +kernel
theorem dX10_operand_84 : decode cX10_operand 84 = .ok (.aload_n 0, 1) := by decide +kernel
theorem dX10_operand_85 : decode cX10_operand 85 = .ok (.getfield 104, 3) := by decide +kernel
theorem dX10_operand_88 : decode cX10_operand 88 = .ok (.aload_n 0, 1) := by decide +kernel
theorem dX10_operand_89 : decode cX10_operand 89 = .ok (.getfield 444, 3) := by decide +kernel
theorem dX10_operand_92 : decode cX10_operand 92 = .ok (.iload_n 1, 1) := by decide +kernel
theorem dX10_operand_93 : decode cX10_operand 93 = .ok (.ifCond .eq 8, 3) := by decide +kernel
theorem dX10_operand_96 : decode cX10_operand 96 = .ok (.bipush 20, 2) := by decide +kernel
theorem dX10_operand_98 : decode cX10_operand 98 = .ok (.goto 5, 3) := by decide +kernel
theorem dX10_operand_101 : decode cX10_operand 101 = .ok (.bipush 23, 2) := by decide +kernel
theorem dX10_operand_103 : decode cX10_operand 103 = .ok (.iastore, 1) := by decide +kernel
theorem dX10_operand_104 : decode cX10_operand 104 = .ok (.aload_n 0, 1) := by decide +kernel
theorem dX10_operand_105 : decode cX10_operand 105 = .ok (.dup, 1) := by decide +kernel
theorem dX10_operand_106 : decode cX10_operand 106 = .ok (.getfield 444, 3) := by decide +kernel
theorem dX10_operand_109 : decode cX10_operand 109 = .ok (.iconst 1, 1) := by decide +kernel
theorem dX10_operand_110 : decode cX10_operand 110 = .ok (.iadd, 1) := by decide +kernel
theorem dX10_operand_111 : decode cX10_operand 111 = .ok (.putfield 444, 3) := by decide +kernel
theorem dX10_operand_114 : decode cX10_operand 114 = .ok (.aload_n 0, 1) := by decide +kernel
theorem dX10_operand_115 : decode cX10_operand 115 = .ok (.dup, 1) := by decide +kernel
theorem dX10_operand_116 : decode cX10_operand 116 = .ok (.getfield 451, 3) := by decide +kernel
theorem dX10_operand_119 : decode cX10_operand 119 = .ok (.iconst 1, 1) := by decide +kernel
theorem dX10_operand_120 : decode cX10_operand 120 = .ok (.iadd, 1) := by decide +kernel
theorem dX10_operand_121 : decode cX10_operand 121 = .ok (.putfield 451, 3) := by decide +kernel
theorem dX10_operand_124 : decode cX10_operand 124 = .ok (.iconst 1, 1) := by decide +kernel
theorem dX10_operand_125 : decode cX10_operand 125 = .ok (.ireturn, 1) := by decide +kernel
theorem dX10_operand_126 : decode cX10_operand 126 = .ok (.aload_n 0, 1) := by decide +kernel
theorem dX10_operand_127 : decode cX10_operand 127 = .ok (.iconst 1, 1) := by decide +kernel
theorem dX10_operand_128 : decode cX10_operand 128 = .ok (.putfield 460, 3) := by decide +kernel
theorem dX10_operand_131 : decode cX10_operand 131 = .ok (.iload_n 3, 1) := by decide +kernel
theorem dX10_operand_132 : decode cX10_operand 132 = .ok (.iconst 2, 1) := by decide +kernel
theorem dX10_operand_133 : decode cX10_operand 133 = .ok (.if_icmp .ge 12, 3) := by decide +kernel
theorem dX10_operand_136 : decode cX10_operand 136 = .ok (.aload_n 0, 1) := by decide +kernel
theorem dX10_operand_137 : decode cX10_operand 137 = .ok (.iload_n 3, 1) := by decide +kernel
theorem dX10_operand_138 : decode cX10_operand 138 = .ok (.iconst 0, 1) := by decide +kernel
theorem dX10_operand_139 : decode cX10_operand 139 = .ok (.iconst 0, 1) := by decide +kernel
theorem dX10_operand_140 : decode cX10_operand 140 = .ok (.invokevirtual 447, 3) := by decide +kernel
theorem dX10_operand_143 : decode cX10_operand 143 = .ok (.iconst 1, 1) := by decide +kernel
theorem dX10_operand_144 : decode cX10_operand 144 = .ok (.ireturn, 1) := by decide +kernel
theorem dX10_operand_145 : decode cX10_operand 145 = .ok (.iload_n 3, 1) := by decide +kernel
theorem dX10_operand_146 : decode cX10_operand 146 = .ok (.iconst 2, 1) := by decide +kernel
theorem dX10_operand_147 : decode cX10_operand 147 = .ok (.if_icmp .ne 54, 3) := by decide +kernel
theorem dX10_operand_150 : decode cX10_operand 150 = .ok (.aload_n 0, 1) := by decide +kernel
theorem dX10_operand_151 : decode cX10_operand 151 = .ok (.invokevirtual 218, 3) := by decide +kernel
theorem dX10_operand_154 : decode cX10_operand 154 = .ok (.ifCond .ne 9, 3) := by decide +kernel
theorem dX10_operand_157 : decode cX10_operand 157 = .ok (.aload_n 0, 1) := by decide +kernel
theorem dX10_operand_158 : decode cX10_operand 158 = .ok (.iconst 1, 1) := by decide +kernel
theorem dX10_operand_159 : decode cX10_operand 159 = .ok (.invokevirtual 205, 3) := by decide +kernel
theorem dX10_operand_162 : decode cX10_operand 162 = .ok (.ireturn, 1) := by decide +kernel
theorem dX10_operand_163 : decode cX10_operand 163 = .ok (.aload_n 0, 1) := by decide +kernel
theorem dX10_operand_164 : decode cX10_operand 164 = .ok (.iconst 0, 1) := by decide +kernel
theorem dX10_operand_165 : decode cX10_operand 165 = .ok (.aload_n 0, 1) := by decide +kernel
theorem dX10_operand_166 : decode cX10_operand 166 = .ok (.getfield 37, 3) := by decide +kernel
theorem dX10_operand_169 : decode cX10_operand 169 = .ok (.iconst 5, 1) := by decide +kernel
theorem dX10_operand_170 : decode cX10_operand 170 = .ok (.iaload, 1) := by decide +kernel
theorem dX10_operand_171 : decode cX10_operand 171 = .ok (.invokevirtual 222, 3) := by decide +kernel
theorem dX10_operand_174 : decode cX10_operand 174 = .ok (.istore 4, 2) := by decide +kernel
theorem dX10_operand_176 : decode cX10_operand 176 = .ok (.iload 4, 2) := by decide +kernel
theorem dX10_operand_178 : decode cX10_operand 178 = .ok (.ifCond .ge 9, 3) := by decide +kernel
theorem dX10_operand_181 : decode cX10_operand 181 = .ok (.aload_n 0, 1) := by decide +kernel
theorem dX10_operand_182 : decode cX10_operand 182 = .ok (.iconst 3, 1) := by decide +kernel
theorem dX10_operand_183 : decode cX10_operand 183 = .ok (.invokevirtual 205, 3) := by decide +kernel
theorem dX10_operand_186 : decode cX10_operand 186 = .ok (.ireturn, 1) := by decide +kernel
theorem dX10_operand_187 : decode cX10_operand 187 = .ok (.aload_n 0, 1) := by decide +kernel
theorem dX10_operand_188 : decode cX10_operand 188 = .ok (.iload_n 3, 1) := by decide +kernel
theorem dX10_operand_189 : decode cX10_operand 189 = .ok (.iconst 0, 1) := by decide +kernel
theorem dX10_operand_190 : decode cX10_operand 190 = .ok (.iload 4, 2) := by decide +kernel
theorem dX10_operand_192 : decode cX10_operand 192 = .ok (.invokevirtual 447, 3) := by decide +kernel
theorem dX10_operand_195 : decode cX10_operand 195 = .ok (.aload_n 0, 1) := by decide +kernel
theorem dX10_operand_196 : decode cX10_operand 196 = .ok (.invokevirtual 208, 3) := by decide +kernel
theorem dX10_operand_199 : decode cX10_operand 199 = .ok (.iconst 1, 1) := by decide +kernel
theorem dX10_operand_200 : decode cX10_operand 200 = .ok (.ireturn, 1) := by decide +kernel
theorem dX10_operand_201 : decode cX10_operand 201 = .ok (.aload_n 0, 1) := by decide +kernel
theorem dX10_operand_202 : decode cX10_operand 202 = .ok (.getfield 179, 3) := by decide +kernel
theorem dX10_operand_205 : decode cX10_operand 205 = .ok (.iconst 3, 1) := by decide +kernel
theorem dX10_operand_206 : decode cX10_operand 206 = .ok (.if_icmp .ne 21, 3) := by decide +kernel
theorem dX10_operand_209 : decode cX10_operand 209 = .ok (.aload_n 0, 1) := by decide +kernel
theorem dX10_operand_210 : decode cX10_operand 210 = .ok (.getfield 189, 3) := by decide +kernel
theorem dX10_operand_213 : decode cX10_operand 213 = .ok (.bipush 60, 2) := by decide +kernel
theorem dX10_operand_215 : decode cX10_operand 215 = .ok (.if_icmp .lt 12, 3) := by decide +kernel
theorem dX10_operand_218 : decode cX10_operand 218 = .ok (.aload_n 0, 1) := by decide +kernel
theorem dX10_operand_219 : decode cX10_operand 219 = .ok (.getfield 189, 3) := by decide +kernel
theorem dX10_operand_222 : decode cX10_operand 222 = .ok (.bipush 62, 2) := by decide +kernel
theorem dX10_operand_224 : decode cX10_operand 224 = .ok (.if_icmp .le 9, 3) := by decide +kernel
theorem dX10_operand_227 : decode cX10_operand 227 = .ok (.aload_n 0, 1) := by decide +kernel
theorem dX10_operand_228 : decode cX10_operand 228 = .ok (.iconst 1, 1) := by decide +kernel
theorem dX10_operand_229 : decode cX10_operand 229 = .ok (.invokevirtual 205, 3) := by decide +kernel
theorem dX10_operand_232 : decode cX10_operand 232 = .ok (.ireturn, 1) := by decide +kernel
theorem dX10_operand_233 : decode cX10_operand 233 = .ok (.aload_n 0, 1) := by decide +kernel
theorem dX10_operand_234 : decode cX10_operand 234 = .ok (.getfield 189, 3) := by decide +kernel
theorem dX10_operand_237 : decode cX10_operand 237 = .ok (.istore 4, 2) := by decide +kernel
theorem dX10_operand_239 : decode cX10_operand 239 = .ok (.aload_n 0, 1) := by decide +kernel
theorem dX10_operand_240 : decode cX10_operand 240 = .ok (.invokevirtual 208, 3) := by decide +kernel
theorem dX10_operand_243 : decode cX10_operand 243 = .ok (.aload_n 0, 1) := by decide +kernel
theorem dX10_operand_244 : decode cX10_operand 244 = .ok (.getfield 179, 3) := by decide +kernel
theorem dX10_operand_247 : decode cX10_operand 247 = .ok (.iconst 2, 1) := by decide +kernel
theorem dX10_operand_248 : decode cX10_operand 248 = .ok (.if_icmp .eq 9, 3) := by decide +kernel
theorem dX10_operand_251 : decode cX10_operand 251 = .ok (.aload_n 0, 1) := by decide +kernel
theorem dX10_operand_252 : decode cX10_operand 252 = .ok (.iconst 1, 1) := by decide +kernel
theorem dX10_operand_253 : decode cX10_operand 253 = .ok (.invokevirtual 205, 3) := by decide +kernel
theorem dX10_operand_256 : decode cX10_operand 256 = .ok (.ireturn, 1) := by decide +kernel
theorem dX10_operand_257 : decode cX10_operand 257 = .ok (.aload_n 0, 1) := by decide +kernel
theorem dX10_operand_258 : decode cX10_operand 258 = .ok (.iload_n 3, 1) := by decide +kernel
theorem dX10_operand_259 : decode cX10_operand 259 = .ok (.iload 4, 2) := by decide +kernel
theorem dX10_operand_261 : decode cX10_operand 261 = .ok (.aload_n 0, 1) := by decide +kernel
theorem dX10_operand_262 : decode cX10_operand 262 = .ok (.getfield 189, 3) := by decide +kernel
theorem dX10_operand_265 : decode cX10_operand 265 = .ok (.invokevirtual 447, 3) := by decide +kernel
theorem dX10_operand_268 : decode cX10_operand 268 = .ok (.aload_n 0, 1) := by decide +kernel
theorem dX10_operand_269 : decode cX10_operand 269 = .ok (.invokevirtual 208, 3) := by decide +kernel
theorem dX10_operand_272 : decode cX10_operand 272 = .ok (.iconst 1, 1) := by decide +kernel
theorem dX10_operand_273 : decode cX10_operand 273 = .ok (.ireturn, 1) := by decide +kernel
theorem dX10_sentence_0 : decode cX10_sentence 0 = .ok (.aload_n 0, 1) := by decide +kernel
theorem dX10_sentence_1 : decode cX10_sentence 1 = .ok (.iconst 0, 1) := by decide +kernel
theorem dX10_sentence_2 : decode cX10_sentence 2 = .ok (.putfield 1, 3) := by decide +kernel
theorem dX10_sentence_5 : decode cX10_sentence 5 = .ok (.aload_n 0, 1) := by decide +kernel
theorem dX10_sentence_6 : decode cX10_sentence 6 = .ok (.sipush 200, 3) := by decide +kernel
theorem dX10_sentence_9 : decode cX10_sentence 9 = .ok (.invokevirtual 248, 3) := by decide +kernel
theorem dX10_sentence_12 : decode cX10_sentence 12 = .ok (.aload_n 0, 1) := by decide +kernel
theorem dX10_sentence_13 : decode cX10_sentence 13 = .ok (.iconst 0, 1) := by decide +kernel
theorem dX10_sentence_14 : decode cX10_sentence 14 = .ok (.putfield 196, 3) := by decide +kernel
theorem dX10_sentence_17 : decode cX10_sentence 17 = .ok (.aload_n 0, 1) := by decide +kernel
theorem dX10_sentence_18 : decode cX10_sentence 18 = .ok (.iconst 0, 1) := by decide +kernel
theorem dX10_sentence_19 : decode cX10_sentence 19 = .ok (.putfield 441, 3) := by decide +kernel
theorem dX10_sentence_22 : decode cX10_sentence 22 = .ok (.aload_n 0, 1) := by decide +kernel
theorem dX10_sentence_23 : decode cX10_sentence 23 = .ok (.iconst 0, 1) := by decide +kernel
theorem dX10_sentence_24 : decode cX10_sentence 24 = .ok (.putfield 457, 3) := by decide +kernel
theorem dX10_sentence_27 : decode cX10_sentence 27 = .ok (.aload_n 0, 1) := by decide +kernel
theorem dX10_sentence_28 : decode cX10_sentence 28 = .ok (.iconst 0, 1) := by decide +kernel
theorem dX10_sentence_29 : decode cX10_sentence 29 = .ok (.putfield 444, 3) := by decide +kernel
theorem dX10_sentence_32 : decode cX10_sentence 32 = .ok (.aload_n 0, 1) := by decide +kernel
theorem dX10_sentence_33 : decode cX10_sentence 33 = .ok (.iconst 1, 1) := by decide +kernel
theorem dX10_sentence_34 : decode cX10_sentence 34 = .ok (.putfield 451, 3) := by decide +kernel
theorem dX10_sentence_37 : decode cX10_sentence 37 = .ok (.aload_n 0, 1) := by decide +kernel
theorem dX10_sentence_38 : decode cX10_sentence 38 = .ok (.iconst 0, 1) := by decide +kernel
theorem dX10_sentence_39 : decode cX10_sentence 39 = .ok (.putfield 460, 3) := by decide +kernel
theorem dX10_sentence_42 : decode cX10_sentence 42 = .ok (.aload_n 0, 1) := by decide +kernel
theorem dX10_sentence_43 : decode cX10_sentence 43 = .ok (.invokevirtual 208, 3) := by decide +kernel
theorem dX10_sentence_46 : decode cX10_sentence 46 = .ok (.iconst 1, 1) := by decide +kernel
theorem dX10_sentence_47 : decode cX10_sentence 47 = .ok (.istore_n 1, 1) := by decide +kernel
theorem dX10_sentence_48 : decode cX10_sentence 48 = .ok (.iload_n 1, 1) := by decide +kernel
theorem dX10_sentence_49 : decode cX10_sentence 49 = .ok (.ifCond .eq 83, 3) := by decide +kernel
theorem dX10_sentence_52 : decode cX10_sentence 52 = .ok (.aload_n 0, 1) := by decide +kernel
theorem dX10_sentence_53 : decode cX10_sentence 53 = .ok (.getfield 460, 3) := by decide +kernel
theorem dX10_sentence_56 : decode cX10_sentence 56 = .ok (.ifCond .eq 45, 3) := by decide +kernel
theorem dX10_sentence_59 : decode cX10_sentence 59 = .ok (.aload_n 0, 1) := by decide +kernel
theorem dX10_sentence_60 : decode cX10_sentence 60 = .ok (.getfield 179, 3) := by decide +kernel
theorem dX10_sentence_63 : decode cX10_sentence 63 = .ok (.ifCond .ne 38, 3) := by decide +kernel
theorem dX10_sentence_66 : decode cX10_sentence 66 = .ok (.aload_n 0, 1) := by decide +kernel
theorem dX10_sentence_67 : decode cX10_sentence 67 = .ok (.invokevirtual 463, 3) := by decide +kernel
theorem dX10_sentence_70 : decode cX10_sentence 70 = .ok (.aload_n 0, 1) := by decide +kernel
theorem dX10_sentence_71 : decode cX10_sentence 71 = .ok (.bipush 22, 2) := by decide +kernel
theorem dX10_sentence_73 : decode cX10_sentence 73 = .ok (.invokevirtual 466, 3) := by decide +kernel
theorem dX10_sentence_76 : decode cX10_sentence 76 = .ok (.aload_n 0, 1) := by decide +kernel
theorem dX10_sentence_77 : decode cX10_sentence 77 = .ok (.getfield 444, 3) := by decide +kernel
theorem dX10_sentence_80 : decode cX10_sentence 80 = .ok (.ifCond .le 16, 3) := by decide +kernel
theorem dX10_sentence_83 : decode cX10_sentence 83 = .ok (.aload_n 0, 1) := by decide +kernel
theorem dX10_sentence_84 : decode cX10_sentence 84 = .ok (.iconst 1, 1) := by decide +kernel
theorem dX10_sentence_85 : decode cX10_sentence 85 = .ok (.invokevirtual 205, 3) := by decide +kernel
theorem dX10_sentence_88 : decode cX10_sentence 88 = .ok (.pop, 1) := by decide +kernel
theorem dX10_sentence_89 : decode cX10_sentence 89 = .ok (.iconst (-1), 1) := by decide +kernel
theorem dX10_sentence_90 : decode cX10_sentence 90 = .ok (.aload_n 0, 1) := by decide +kernel
theorem dX10_sentence_91 : decode cX10_sentence 91 = .ok (.getfield 199, 3) := by decide +kernel
theorem dX10_sentence_94 : decode cX10_sentence 94 = .ok (.isub, 1) := by decide +kernel
theorem dX10_sentence_95 : decode cX10_sentence 95 = .ok (.ireturn, 1) := by decide +kernel
theorem dX10_sentence_96 : decode cX10_sentence 96 = .ok (.iconst 0, 1) := by decide +kernel
theorem dX10_sentence_97 : decode cX10_sentence 97 = .ok (.istore_n 1, 1) := by decide +kernel
theorem dX10_sentence_98 : decode cX10_sentence 98 = .ok (.goto (-50), 3) := by decide +kernel
theorem dX10_sentence_101 : decode cX10_sentence 101 = .ok (.aload_n 0, 1) := by decide +kernel
theorem dX10_sentence_102 : decode cX10_sentence 102 = .ok (.getfield 460, 3) := by decide +kernel
theorem dX10_sentence_105 : decode cX10_sentence 105 = .ok (.ifCond .eq 13, 3) := by decide +kernel
theorem dX10_sentence_108 : decode cX10_sentence 108 = .ok (.aload_n 0, 1) := by decide +kernel
theorem dX10_sentence_109 : decode cX10_sentence 109 = .ok (.invokevirtual 469, 3) := by decide +kernel
theorem dX10_sentence_112 : decode cX10_sentence 112 = .ok (.ifCond .ne (-64), 3) := by decide +kernel
theorem dX10_sentence_115 : decode cX10_sentence 115 = .ok (.goto 10, 3) := by decide +kernel
theorem dX10_sentence_118 : decode cX10_sentence 118 = .ok (.aload_n 0, 1) := by decide +kernel
theorem dX10_sentence_119 : decode cX10_sentence 119 = .ok (.invokevirtual 472, 3) := by decide +kernel
theorem dX10_sentence_122 : decode cX10_sentence 122 = .ok (.ifCond .ne (-74), 3) := by decide +kernel
theorem dX10_sentence_125 : decode cX10_sentence 125 = .ok (.iconst (-1), 1) := by decide +kernel
theorem dX10_sentence_126 : decode cX10_sentence 126 = .ok (.aload_n 0, 1) := by decide +kernel
theorem dX10_sentence_127 : decode cX10_sentence 127 = .ok (.getfield 199, 3) := by decide +kernel
theorem dX10_sentence_130 : decode cX10_sentence 130 = .ok (.isub, 1) := by decide +kernel
theorem dX10_sentence_131 : decode cX10_sentence 131 = .ok (.ireturn, 1) := by decide +kernel
theorem dX10_sentence_132 : decode cX10_sentence 132 = .ok (.aload_n 0, 1) := by decide +kernel
theorem dX10_sentence_133 : decode cX10_sentence 133 = .ok (.getfield 37, 3) := by decide +kernel
theorem dX10_sentence_136 : decode cX10_sentence 136 = .ok (.sipush 153, 3) := by decide +kernel
theorem dX10_sentence_139 : decode cX10_sentence 139 = .ok (.aload_n 0, 1) := by decide +kernel
theorem dX10_sentence_140 : decode cX10_sentence 140 = .ok (.getfield 441, 3) := by decide +kernel
theorem dX10_sentence_143 : decode cX10_sentence 143 = .ok (.iastore, 1) := by decide +kernel
theorem dX10_sentence_144 : decode cX10_sentence 144 = .ok (.iconst 0, 1) := by decide +kernel
theorem dX10_sentence_145 : decode cX10_sentence 145 = .ok (.istore_n 2, 1) := by decide +kernel
theorem dX10_sentence_146 : decode cX10_sentence 146 = .ok (.iload_n 2, 1) := by decide +kernel
theorem dX10_sentence_147 : decode cX10_sentence 147 = .ok (.iconst 3, 1) := by decide +kernel
theorem dX10_sentence_148 : decode cX10_sentence 148 = .ok (.aload_n 0, 1) := by decide +kernel
theorem dX10_sentence_149 : decode cX10_sentence 149 = .ok (.getfield 441, 3) := by decide +kernel
theorem dX10_sentence_152 : decode cX10_sentence 152 = .ok (.imul, 1) := by decide +kernel
theorem dX10_sentence_153 : decode cX10_sentence 153 = .ok (.if_icmp .ge 25, 3) := by decide +kernel
theorem dX10_sentence_156 : decode cX10_sentence 156 = .ok (.aload_n 0, 1) := by decide +kernel
theorem dX10_sentence_157 : decode cX10_sentence 157 = .ok (.getfield 37, 3) := by decide +kernel
theorem dX10_sentence_160 : decode cX10_sentence 160 = .ok (.sipush 154, 3) := by decide +kernel
theorem dX10_sentence_163 : decode cX10_sentence 163 = .ok (.iload_n 2, 1) := by decide +kernel
theorem dX10_sentence_164 : decode cX10_sentence 164 = .ok (.iadd, 1) := by decide +kernel
theorem dX10_sentence_165 : decode cX10_sentence 165 = .ok (.aload_n 0, 1) := by decide +kernel
theorem dX10_sentence_166 : decode cX10_sentence 166 = .ok (.getfield 44, 3) := by decide +kernel
theorem dX10_sentence_169 : decode cX10_sentence 169 = .ok (.iload_n 2, 1) := by decide +kernel
theorem dX10_sentence_170 : decode cX10_sentence 170 = .ok (.iaload, 1) := by decide +kernel
theorem dX10_sentence_171 : decode cX10_sentence 171 = .ok (.iastore, 1) := by decide +kernel
theorem dX10_sentence_172 : decode cX10_sentence 172 = .ok (.iinc 2 1, 3) := by decide +kernel
theorem dX10_sentence_175 : decode cX10_sentence 175 = .ok (.goto (-29), 3) := by decide +kernel
theorem dX10_sentence_178 : decode cX10_sentence 178 = .ok (.aload_n 0, 1) := by decide +kernel
theorem dX10_sentence_179 : decode cX10_sentence 179 = .ok (.getfield 457, 3) := by decide +kernel
theorem dX10_sentence_182 : decode cX10_sentence 182 = .ok (.ireturn, 1) := by decide +kernel
theorem dX10_said_0 : decode cX10_said 0 = .ok (.aload_n 0, 1) := by decide +kernel
theorem dX10_said_1 : decode cX10_said 1 = .ok (.iconst 0, 1) := by decide +kernel
theorem dX10_said_2 : decode cX10_said 2 = .ok (.putfield 1, 3) := by decide +kernel
theorem dX10_said_5 : decode cX10_said 5 = .ok (.aload_n 0, 1) := by decide +kernel
theorem dX10_said_6 : decode cX10_said 6 = .ok (.getfield 37, 3) := by decide +kernel
theorem dX10_said_9 : decode cX10_said 9 = .ok (.sipush 153, 3) := by decide +kernel
theorem dX10_said_12 : decode cX10_said 12 = .ok (.iaload, 1) := by decide +kernel
theorem dX10_said_13 : decode cX10_said 13 = .ok (.ifCond .eq 8, 3) := by decide +kernel
theorem dX10_said_16 : decode cX10_said 16 = .ok (.iload_n 1, 1) := by decide +kernel
theorem dX10_said_17 : decode cX10_said 17 = .ok (.iconst (-1), 1) := by decide +kernel
theorem dX10_said_18 : decode cX10_said 18 = .ok (.if_icmp .ge 5, 3) := by decide +kernel
theorem dX10_said_21 : decode cX10_said 21 = .ok (.iconst (-1), 1) := by decide +kernel
theorem dX10_said_22 : decode cX10_said 22 = .ok (.ireturn, 1) := by decide +kernel
theorem dX10_said_23 : decode cX10_said 23 = .ok (.iconst 0, 1) := by decide +kernel
theorem dX10_said_24 : decode cX10_said 24 = .ok (.istore_n 2, 1) := by decide +kernel
theorem dX10_said_25 : decode cX10_said 25 = .ok (.iconst 0, 1) := by decide +kernel
theorem dX10_said_26 : decode cX10_said 26 = .ok (.istore_n 3, 1) := by decide +kernel
theorem dX10_said_27 : decode cX10_said 27 = .ok (.iload_n 3, 1) := by decide +kernel
theorem dX10_said_28 : decode cX10_said 28 = .ok (.aload_n 0, 1) := by decide +kernel
theorem dX10_said_29 : decode cX10_said 29 = .ok (.getfield 37, 3) := by decide +kernel
theorem dX10_said_32 : decode cX10_said 32 = .ok (.iconst 5, 1) := by decide +kernel
theorem dX10_said_33 : decode cX10_said 33 = .ok (.iaload, 1) := by decide +kernel
theorem dX10_said_34 : decode cX10_said 34 = .ok (.if_icmp .ge 30, 3) := by decide +kernel
theorem dX10_said_37 : decode cX10_said 37 = .ok (.aload_n 0, 1) := by decide +kernel
theorem dX10_said_38 : decode cX10_said 38 = .ok (.iload_n 3, 1) := by decide +kernel
theorem dX10_said_39 : decode cX10_said 39 = .ok (.invokevirtual 478, 3) := by decide +kernel
theorem dX10_said_42 : decode cX10_said 42 = .ok (.ifCond .ne 6, 3) := by decide +kernel
theorem dX10_said_45 : decode cX10_said 45 = .ok (.goto 13, 3) := by decide +kernel
theorem dX10_said_48 : decode cX10_said 48 = .ok (.iload_n 2, 1) := by decide +kernel
theorem dX10_said_49 : decode cX10_said 49 = .ok (.iload_n 1, 1) := by decide +kernel
theorem dX10_said_50 : decode cX10_said 50 = .ok (.if_icmp .ne 5, 3) := by decide +kernel
theorem dX10_said_53 : decode cX10_said 53 = .ok (.iload_n 3, 1) := by decide +kernel
theorem dX10_said_54 : decode cX10_said 54 = .ok (.ireturn, 1) := by decide +kernel
theorem dX10_said_55 : decode cX10_said 55 = .ok (.iinc 2 1, 3) := by decide +kernel
theorem dX10_said_58 : decode cX10_said 58 = .ok (.iinc 3 1, 3) := by decide +kernel
theorem dX10_said_61 : decode cX10_said 61 = .ok (.goto (-34), 3) := by decide +kernel
theorem dX10_said_64 : decode cX10_said 64 = .ok (.iload_n 1, 1) := by decide +kernel
theorem dX10_said_65 : decode cX10_said 65 = .ok (.iconst (-1), 1) := by decide +kernel
theorem dX10_said_66 : decode cX10_said 66 = .ok (.if_icmp .ne 7, 3) := by decide +kernel
theorem dX10_said_69 : decode cX10_said 69 = .ok (.iload_n 2, 1) := by decide +kernel
theorem dX10_said_70 : decode cX10_said 70 = .ok (.goto 4, 3) := by decide +kernel
theorem dX10_said_73 : decode cX10_said 73 = .ok (.iconst (-1), 1) := by decide +kernel
theorem dX10_said_74 : decode cX10_said 74 = .ok (.ireturn, 1) := by decide +kernel
theorem dX10_image_0 : decode cX10_image 0 = .ok (.aload_n 0, 1) := by decide +kernel
theorem dX10_image_1 : decode cX10_image 1 = .ok (.iconst 0, 1) := by decide +kernel
theorem dX10_image_2 : decode cX10_image 2 = .ok (.putfield 1, 3) := by decide +kernel
theorem dX10_image_5 : decode cX10_image 5 = .ok (.iload_n 1, 1) := by decide +kernel
theorem dX10_image_6 : decode cX10_image 6 = .ok (.iconst 0, 1) := by decide +kernel
theorem dX10_image_7 : decode cX10_image 7 = .ok (.iconst 1, 1) := by decide +kernel
theorem dX10_image_8 : decode cX10_image 8 = .ok (.invokestatic 211, 3) := by decide +kernel
theorem dX10_image_11 : decode cX10_image 11 = .ok (.ifCond .ne 5, 3) := by decide +kernel
theorem dX10_image_14 : decode cX10_image 14 = .ok (.iconst 0, 1) := by decide +kernel
theorem dX10_image_15 : decode cX10_image 15 = .ok (.ireturn, 1) := by decide +kernel
theorem dX10_image_16 : decode cX10_image 16 = .ok (.iconst 0, 1) := by decide +kernel
theorem dX10_image_17 : decode cX10_image 17 = .ok (.istore_n 2, 1) := by decide +kernel
theorem dX10_image_18 : decode cX10_image 18 = .ok (.iload_n 2, 1) := by decide +kernel
theorem dX10_image_19 : decode cX10_image 19 = .ok (.sipush 335, 3) := by decide +kernel
theorem dX10_image_22 : decode cX10_image 22 = .ok (.if_icmp .ge 27, 3) := by decide +kernel
theorem dX10_image_25 : decode cX10_image 25 = .ok (.aload_n 0, 1) := by decide +kernel
theorem dX10_image_26 : decode cX10_image 26 = .ok (.getfield 111, 3) := by decide +kernel
theorem dX10_image_29 : decode cX10_image 29 = .ok (.sipush 335, 3) := by decide +kernel
theorem dX10_image_32 : decode cX10_image 32 = .ok (.iload_n 1, 1) := by decide +kernel
theorem dX10_image_33 : decode cX10_image 33 = .ok (.imul, 1) := by decide +kernel
theorem dX10_image_34 : decode cX10_image 34 = .ok (.iload_n 2, 1) := by decide +kernel
theorem dX10_image_35 : decode cX10_image 35 = .ok (.iadd, 1) := by decide +kernel
theorem dX10_image_36 : decode cX10_image 36 = .ok (.aload_n 0, 1) := by decide +kernel
theorem dX10_image_37 : decode cX10_image 37 = .ok (.getfield 37, 3) := by decide +kernel
theorem dX10_image_40 : decode cX10_image 40 = .ok (.iload_n 2, 1) := by decide +kernel
theorem dX10_image_41 : decode cX10_image 41 = .ok (.iaload, 1) := by decide +kernel
theorem dX10_image_42 : decode cX10_image 42 = .ok (.iastore, 1) := by decide +kernel
theorem dX10_image_43 : decode cX10_image 43 = .ok (.iinc 2 1, 3) := by decide +kernel
theorem dX10_image_46 : decode cX10_image 46 = .ok (.goto (-28), 3) := by decide +kernel
theorem dX10_image_49 : decode cX10_image 49 = .ok (.iconst 0, 1) := by decide +kernel
theorem dX10_image_50 : decode cX10_image 50 = .ok (.istore_n 2, 1) := by decide +kernel
theorem dX10_image_51 : decode cX10_image 51 = .ok (.iload_n 2, 1) := by decide +kernel
theorem dX10_image_52 : decode cX10_image 52 = .ok (.bipush 18, 2) := by decide +kernel
theorem dX10_image_54 : decode cX10_image 54 = .ok (.if_icmp .ge 26, 3) := by decide +kernel
theorem dX10_image_57 : decode cX10_image 57 = .ok (.aload_n 0, 1) := by decide +kernel
theorem dX10_image_58 : decode cX10_image 58 = .ok (.getfield 114, 3) := by decide +kernel
theorem dX10_image_61 : decode cX10_image 61 = .ok (.bipush 18, 2) := by decide +kernel
theorem dX10_image_63 : decode cX10_image 63 = .ok (.iload_n 1, 1) := by decide +kernel
theorem dX10_image_64 : decode cX10_image 64 = .ok (.imul, 1) := by decide +kernel
theorem dX10_image_65 : decode cX10_image 65 = .ok (.iload_n 2, 1) := by decide +kernel
theorem dX10_image_66 : decode cX10_image 66 = .ok (.iadd, 1) := by decide +kernel
theorem dX10_image_67 : decode cX10_image 67 = .ok (.aload_n 0, 1) := by decide +kernel
theorem dX10_image_68 : decode cX10_image 68 = .ok (.getfield 47, 3) := by decide +kernel
theorem dX10_image_71 : decode cX10_image 71 = .ok (.iload_n 2, 1) := by decide +kernel
theorem dX10_image_72 : decode cX10_image 72 = .ok (.laload, 1) := by decide +kernel
theorem dX10_image_73 : decode cX10_image 73 = .ok (.lastore, 1) := by decide +kernel
theorem dX10_image_74 : decode cX10_image 74 = .ok (.iinc 2 1, 3) := by decide +kernel
theorem dX10_image_77 : decode cX10_image 77 = .ok (.goto (-26), 3) := by decide +kernel
theorem dX10_image_80 : decode cX10_image 80 = .ok (.aload_n 0, 1) := by decide +kernel
theorem dX10_image_81 : decode cX10_image 81 = .ok (.getfield 117, 3) := by decide +kernel
theorem dX10_image_84 : decode cX10_image 84 = .ok (.iload_n 1, 1) := by decide +kernel
theorem dX10_image_85 : decode cX10_image 85 = .ok (.iconst 1, 1) := by decide +kernel
theorem dX10_image_86 : decode cX10_image 86 = .ok (.bastore, 1) := by decide +kernel
theorem dX10_image_87 : decode cX10_image 87 = .ok (.iconst 1, 1) := by decide +kernel
theorem dX10_image_88 : decode cX10_image 88 = .ok (.ireturn, 1) := by decide +kernel
theorem dX10_restore_0 : decode cX10_restore 0 = .ok (.aload_n 0, 1) := by decide +kernel
theorem dX10_restore_1 : decode cX10_restore 1 = .ok (.iconst 0, 1) := by decide +kernel
theorem dX10_restore_2 : decode cX10_restore 2 = .ok (.putfield 1, 3) := by decide +kernel
theorem dX10_restore_5 : decode cX10_restore 5 = .ok (.iload_n 1, 1) := by decide +kernel
theorem dX10_restore_6 : decode cX10_restore 6 = .ok (.iconst 0, 1) := by decide +kernel
theorem dX10_restore_7 : decode cX10_restore 7 = .ok (.iconst 1, 1) := by decide +kernel
theorem dX10_restore_8 : decode cX10_restore 8 = .ok (.invokestatic 211, 3) := by decide +kernel
theorem dX10_restore_11 : decode cX10_restore 11 = .ok (.ifCond .eq 12, 3) := by decide +kernel
theorem dX10_restore_14 : decode cX10_restore 14 = .ok (.aload_n 0, 1) := by decide +kernel
theorem dX10_restore_15 : decode cX10_restore 15 = .ok (.getfield 117, 3) := by decide +kernel
theorem dX10_restore_18 : decode cX10_restore 18 = .ok (.iload_n 1, 1) := by decide +kernel
theorem dX10_restore_19 : decode cX10_restore 19 = .ok (.baload, 1) := by decide +kernel
theorem dX10_restore_20 : decode cX10_restore 20 = .ok (.ifCond .ne 5, 3) := by decide +kernel
theorem dX10_restore_23 : decode cX10_restore 23 = .ok (.iconst 0, 1) := by decide +kernel
theorem dX10_restore_24 : decode cX10_restore 24 = .ok (.ireturn, 1) := by decide +kernel
theorem dX10_restore_25 : decode cX10_restore 25 = .ok (.iconst 0, 1) := by decide +kernel
theorem dX10_restore_26 : decode cX10_restore 26 = .ok (.istore_n 2, 1) := by decide +kernel
theorem dX10_restore_27 : decode cX10_restore 27 = .ok (.iload_n 2, 1) := by decide +kernel
theorem dX10_restore_28 : decode cX10_restore 28 = .ok (.sipush 335, 3) := by decide +kernel
theorem dX10_restore_31 : decode cX10_restore 31 = .ok (.if_icmp .ge 27, 3) := by decide +kernel
theorem dX10_restore_34 : decode cX10_restore 34 = .ok (.aload_n 0, 1) := by decide +kernel
theorem dX10_restore_35 : decode cX10_restore 35 = .ok (.getfield 37, 3) := by decide +kernel
theorem dX10_restore_38 : decode cX10_restore 38 = .ok (.iload_n 2, 1) := by decide +kernel
theorem dX10_restore_39 : decode cX10_restore 39 = .ok (.aload_n 0, 1) := by decide +kernel
theorem dX10_restore_40 : decode cX10_restore 40 = .ok (.getfield 111, 3) := by decide +kernel
theorem dX10_restore_43 : decode cX10_restore 43 = .ok (.sipush 335, 3) := by decide +kernel
theorem dX10_restore_46 : decode cX10_restore 46 = .ok (.iload_n 1, 1) := by decide +kernel
theorem dX10_restore_47 : decode cX10_restore 47 = .ok (.imul, 1) := by decide +kernel
theorem dX10_restore_48 : decode cX10_restore 48 = .ok (.iload_n 2, 1) := by decide +kernel
theorem dX10_restore_49 : decode cX10_restore 49 = .ok (.iadd, 1) := by decide +kernel
theorem dX10_restore_50 : decode cX10_restore 50 = .ok (.iaload, 1) := by decide +kernel
theorem dX10_restore_51 : decode cX10_restore 51 = .ok (.iastore, 1) := by decide +kernel
theorem dX10_restore_52 : decode cX10_restore 52 = .ok (.iinc 2 1, 3) := by decide +kernel
theorem dX10_restore_55 : decode cX10_restore 55 = .ok (.goto (-28), 3) := by decide +kernel
theorem dX10_restore_58 : decode cX10_restore 58 = .ok (.iconst 0, 1) := by decide +kernel
theorem dX10_restore_59 : decode cX10_restore 59 = .ok (.istore_n 2, 1) := by decide +kernel
theorem dX10_restore_60 : decode cX10_restore 60 = .ok (.iload_n 2, 1) := by decide +kernel
theorem dX10_restore_61 : decode cX10_restore 61 = .ok (.bipush 18, 2) := by decide +kernel
theorem dX10_restore_63 : decode cX10_restore 63 = .ok (.if_icmp .ge 26, 3) := by decide +kernel
theorem dX10_restore_66 : decode cX10_restore 66 = .ok (.aload_n 0, 1) := by decide +kernel
theorem dX10_restore_67 : decode cX10_restore 67 = .ok (.getfield 47, 3) := by decide +kernel
theorem dX10_restore_70 : decode cX10_restore 70 = .ok (.iload_n 2, 1) := by decide +kernel
theorem dX10_restore_71 : decode cX10_restore 71 = .ok (.aload_n 0, 1) := by decide +kernel
theorem dX10_restore_72 : decode cX10_restore 72 = .ok (.getfield 114, 3) := by decide +kernel
theorem dX10_restore_75 : decode cX10_restore 75 = .ok (.bipush 18, 2) := by decide +kernel
theorem dX10_restore_77 : decode cX10_restore 77 = .ok (.iload_n 1, 1) := by decide +kernel
theorem dX10_restore_78 : decode cX10_restore 78 = .ok (.imul, 1) := by decide +kernel
theorem dX10_restore_79 : decode cX10_restore 79 = .ok (.iload_n 2, 1) := by decide +kernel
theorem dX10_restore_80 : decode cX10_restore 80 = .ok (.iadd, 1) := by decide +kernel
theorem dX10_restore_81 : decode cX10_restore 81 = .ok (.laload, 1) := by decide +kernel
theorem dX10_restore_82 : decode cX10_restore 82 = .ok (.lastore, 1) := by decide +kernel
theorem dX10_restore_83 : decode cX10_restore 83 = .ok (.iinc 2 1, 3) := by decide +kernel
theorem dX10_restore_86 : decode cX10_restore 86 = .ok (.goto (-26), 3) := by decide +kernel
theorem dX10_restore_89 : decode cX10_restore 89 = .ok (.aload_n 0, 1) := by decide +kernel
theorem dX10_restore_90 : decode cX10_restore 90 = .ok (.iconst 0, 1) := by decide +kernel
theorem dX10_restore_91 : decode cX10_restore 91 = .ok (.putfield 263, 3) := by decide +kernel
theorem dX10_restore_94 : decode cX10_restore 94 = .ok (.iconst 1, 1) := by decide +kernel
theorem dX10_restore_95 : decode cX10_restore 95 = .ok (.ireturn, 1) := by decide +kernel
theorem dX10_count_0 : decode cX10_count 0 = .ok (.aload_n 0, 1) := by decide +kernel
theorem dX10_count_1 : decode cX10_count 1 = .ok (.iconst 0, 1) := by decide +kernel
theorem dX10_count_2 : decode cX10_count 2 = .ok (.putfield 1, 3) := by decide +kernel
theorem dX10_count_5 : decode cX10_count 5 = .ok (.iload_n 1, 1) := by decide +kernel
theorem dX10_count_6 : decode cX10_count 6 = .ok (.tableswitch 85 8 12 #[34, 42, 64, 72, 80], 34) := by decide +kernel
theorem dX10_count_40 : decode cX10_count 40 = .ok (.aload_n 0, 1) := by decide +kernel
theorem dX10_count_41 : decode cX10_count 41 = .ok (.getfield 37, 3) := by decide +kernel
theorem dX10_count_44 : decode cX10_count 44 = .ok (.bipush 113, 2) := by decide +kernel
theorem dX10_count_46 : decode cX10_count 46 = .ok (.iaload, 1) := by decide +kernel
theorem dX10_count_47 : decode cX10_count 47 = .ok (.ireturn, 1) := by decide +kernel
theorem dX10_count_48 : decode cX10_count 48 = .ok (.aload_n 0, 1) := by decide +kernel
theorem dX10_count_49 : decode cX10_count 49 = .ok (.getfield 37, 3) := by decide +kernel
theorem dX10_count_52 : decode cX10_count 52 = .ok (.bipush 7, 2) := by decide +kernel
theorem dX10_count_54 : decode cX10_count 54 = .ok (.iaload, 1) := by decide +kernel
theorem dX10_count_55 : decode cX10_count 55 = .ok (.ifCond .ne 7, 3) := by decide +kernel
theorem dX10_count_58 : decode cX10_count 58 = .ok (.iconst (-1), 1) := by decide +kernel
theorem dX10_count_59 : decode cX10_count 59 = .ok (.goto 10, 3) := by decide +kernel
theorem dX10_count_62 : decode cX10_count 62 = .ok (.aload_n 0, 1) := by decide +kernel
theorem dX10_count_63 : decode cX10_count 63 = .ok (.getfield 37, 3) := by decide +kernel
theorem dX10_count_66 : decode cX10_count 66 = .ok (.bipush 114, 2) := by decide +kernel
theorem dX10_count_68 : decode cX10_count 68 = .ok (.iaload, 1) := by decide +kernel
theorem dX10_count_69 : decode cX10_count 69 = .ok (.ireturn, 1) := by decide +kernel
theorem dX10_count_70 : decode cX10_count 70 = .ok (.aload_n 0, 1) := by decide +kernel
theorem dX10_count_71 : decode cX10_count 71 = .ok (.getfield 37, 3) := by decide +kernel
theorem dX10_count_74 : decode cX10_count 74 = .ok (.bipush 115, 2) := by decide +kernel
theorem dX10_count_76 : decode cX10_count 76 = .ok (.iaload, 1) := by decide +kernel
theorem dX10_count_77 : decode cX10_count 77 = .ok (.ireturn, 1) := by decide +kernel
theorem dX10_count_78 : decode cX10_count 78 = .ok (.aload_n 0, 1) := by decide +kernel
theorem dX10_count_79 : decode cX10_count 79 = .ok (.getfield 37, 3) := by decide +kernel
theorem dX10_count_82 : decode cX10_count 82 = .ok (.bipush 104, 2) := by decide +kernel
theorem dX10_count_84 : decode cX10_count 84 = .ok (.iaload, 1) := by decide +kernel
theorem dX10_count_85 : decode cX10_count 85 = .ok (.ireturn, 1) := by decide +kernel
theorem dX10_count_86 : decode cX10_count 86 = .ok (.aload_n 0, 1) := by decide +kernel
theorem dX10_count_87 : decode cX10_count 87 = .ok (.getfield 7, 3) := by decide +kernel
theorem dX10_count_90 : decode cX10_count 90 = .ok (.ireturn, 1) := by decide +kernel
theorem dX10_count_91 : decode cX10_count 91 = .ok (.iload_n 1, 1) := by decide +kernel
theorem dX10_count_92 : decode cX10_count 92 = .ok (.iconst 0, 1) := by decide +kernel
theorem dX10_count_93 : decode cX10_count 93 = .ok (.bipush 7, 2) := by decide +kernel
theorem dX10_count_95 : decode cX10_count 95 = .ok (.invokestatic 211, 3) := by decide +kernel
theorem dX10_count_98 : decode cX10_count 98 = .ok (.ifCond .eq 12, 3) := by decide +kernel
theorem dX10_count_101 : decode cX10_count 101 = .ok (.aload_n 0, 1) := by decide +kernel
theorem dX10_count_102 : decode cX10_count 102 = .ok (.getfield 37, 3) := by decide +kernel
theorem dX10_count_105 : decode cX10_count 105 = .ok (.iload_n 1, 1) := by decide +kernel
theorem dX10_count_106 : decode cX10_count 106 = .ok (.iaload, 1) := by decide +kernel
theorem dX10_count_107 : decode cX10_count 107 = .ok (.goto 4, 3) := by decide +kernel
theorem dX10_count_110 : decode cX10_count 110 = .ok (.iconst (-1), 1) := by decide +kernel
theorem dX10_count_111 : decode cX10_count 111 = .ok (.ireturn, 1) := by decide +kernel
theorem dJ0_length_8abf5_0 : decode cJ0_length_8abf5 0 = .ok (.aload_n 0, 1) := by decide +kernel
theorem dJ0_length_8abf5_1 : decode cJ0_length_8abf5 1 = .ok (.getfield 9, 3) := by decide +kernel
theorem dJ0_length_8abf5_4 : decode cJ0_length_8abf5 4 = .ok (.arraylength, 1) := by decide +kernel
theorem dJ0_length_8abf5_5 : decode cJ0_length_8abf5 5 = .ok (.aload_n 0, 1) := by decide +kernel
theorem dJ0_length_8abf5_6 : decode cJ0_length_8abf5 6 = .ok (.invokevirtual 335, 3) := by decide +kernel
theorem dJ0_length_8abf5_9 : decode cJ0_length_8abf5 9 = .ok (.ishr, 1) := by decide +kernel
theorem dJ0_length_8abf5_10 : decode cJ0_length_8abf5 10 = .ok (.ireturn, 1) := by decide +kernel
theorem dJ0_charAt_5068e_0 : decode cJ0_charAt_5068e 0 = .ok (.aload_n 0, 1) := by decide +kernel
theorem dJ0_charAt_5068e_1 : decode cJ0_charAt_5068e 1 = .ok (.invokevirtual 492, 3) := by decide +kernel
theorem dJ0_charAt_5068e_4 : decode cJ0_charAt_5068e 4 = .ok (.ifCond .eq 12, 3) := by decide +kernel
theorem dJ0_charAt_5068e_7 : decode cJ0_charAt_5068e 7 = .ok (.aload_n 0, 1) := by decide +kernel
theorem dJ0_charAt_5068e_8 : decode cJ0_charAt_5068e 8 = .ok (.getfield 9, 3) := by decide +kernel
theorem dJ0_charAt_5068e_11 : decode cJ0_charAt_5068e 11 = .ok (.iload_n 1, 1) := by decide +kernel
theorem dJ0_charAt_5068e_12 : decode cJ0_charAt_5068e 12 = .ok (.invokestatic 495, 3) := by decide +kernel
theorem dJ0_charAt_5068e_15 : decode cJ0_charAt_5068e 15 = .ok (.ireturn, 1) := by decide +kernel
theorem dJ0_charAt_5068e_16 : decode cJ0_charAt_5068e 16 = .ok (.aload_n 0, 1) := by decide +kernel
theorem dJ0_charAt_5068e_17 : decode cJ0_charAt_5068e 17 = .ok (.getfield 9, 3) := by decide +kernel
theorem dJ0_charAt_5068e_20 : decode cJ0_charAt_5068e 20 = .ok (.iload_n 1, 1) := by decide +kernel
theorem dJ0_charAt_5068e_21 : decode cJ0_charAt_5068e 21 = .ok (.invokestatic 498, 3) := by decide +kernel
theorem dJ0_charAt_5068e_24 : decode cJ0_charAt_5068e 24 = .ok (.ireturn, 1) := by decide +kernel
theorem dJ0_coder_7d493_0 : decode cJ0_coder_7d493 0 = .ok (.getstatic 38, 3) := by decide +kernel
theorem dJ0_coder_7d493_3 : decode cJ0_coder_7d493 3 = .ok (.ifCond .eq 10, 3) := by decide +kernel
theorem dJ0_coder_7d493_6 : decode cJ0_coder_7d493 6 = .ok (.aload_n 0, 1) := by decide +kernel
theorem dJ0_coder_7d493_7 : decode cJ0_coder_7d493 7 = .ok (.getfield 15, 3) := by decide +kernel
theorem dJ0_coder_7d493_10 : decode cJ0_coder_7d493 10 = .ok (.goto 4, 3) := by decide +kernel
theorem dJ0_coder_7d493_13 : decode cJ0_coder_7d493 13 = .ok (.iconst 1, 1) := by decide +kernel
theorem dJ0_coder_7d493_14 : decode cJ0_coder_7d493 14 = .ok (.ireturn, 1) := by decide +kernel
theorem dJ0_isLatin1_aae02_0 : decode cJ0_isLatin1_aae02 0 = .ok (.getstatic 38, 3) := by decide +kernel
theorem dJ0_isLatin1_aae02_3 : decode cJ0_isLatin1_aae02 3 = .ok (.ifCond .eq 14, 3) := by decide +kernel
theorem dJ0_isLatin1_aae02_6 : decode cJ0_isLatin1_aae02 6 = .ok (.aload_n 0, 1) := by decide +kernel
theorem dJ0_isLatin1_aae02_7 : decode cJ0_isLatin1_aae02 7 = .ok (.getfield 15, 3) := by decide +kernel
theorem dJ0_isLatin1_aae02_10 : decode cJ0_isLatin1_aae02 10 = .ok (.ifCond .ne 7, 3) := by decide +kernel
theorem dJ0_isLatin1_aae02_13 : decode cJ0_isLatin1_aae02 13 = .ok (.iconst 1, 1) := by decide +kernel
theorem dJ0_isLatin1_aae02_14 : decode cJ0_isLatin1_aae02 14 = .ok (.goto 4, 3) := by decide +kernel
theorem dJ0_isLatin1_aae02_17 : decode cJ0_isLatin1_aae02 17 = .ok (.iconst 0, 1) := by decide +kernel
theorem dJ0_isLatin1_aae02_18 : decode cJ0_isLatin1_aae02 18 = .ok (.ireturn, 1) := by decide +kernel
theorem dJ0_checkIndex_df160_0 : decode cJ0_checkIndex_df160 0 = .ok (.iload_n 0, 1) := by decide +kernel
theorem dJ0_checkIndex_df160_1 : decode cJ0_checkIndex_df160 1 = .ok (.iload_n 1, 1) := by decide +kernel
theorem dJ0_checkIndex_df160_2 : decode cJ0_checkIndex_df160 2 = .ok (.getstatic 1053, 3) := by decide +kernel
theorem dJ0_checkIndex_df160_5 : decode cJ0_checkIndex_df160 5 = .ok (.invokestatic 1059, 3) := by decide +kernel
theorem dJ0_checkIndex_df160_8 : decode cJ0_checkIndex_df160 8 = .ok (.pop, 1) := by decide +kernel
theorem dJ0_checkIndex_df160_9 : decode cJ0_checkIndex_df160 9 = .ok (.return_, 1) := by decide +kernel
theorem dJ1_charAt_3b067_0 : decode cJ1_charAt_3b067 0 = .ok (.iload_n 1, 1) := by decide +kernel
theorem dJ1_charAt_3b067_1 : decode cJ1_charAt_3b067 1 = .ok (.aload_n 0, 1) := by decide +kernel
theorem dJ1_charAt_3b067_2 : decode cJ1_charAt_3b067 2 = .ok (.arraylength, 1) := by decide +kernel
theorem dJ1_charAt_3b067_3 : decode cJ1_charAt_3b067 3 = .ok (.invokestatic 9, 3) := by decide +kernel
theorem dJ1_charAt_3b067_6 : decode cJ1_charAt_3b067 6 = .ok (.aload_n 0, 1) := by decide +kernel
theorem dJ1_charAt_3b067_7 : decode cJ1_charAt_3b067 7 = .ok (.iload_n 1, 1) := by decide +kernel
theorem dJ1_charAt_3b067_8 : decode cJ1_charAt_3b067 8 = .ok (.baload, 1) := by decide +kernel
theorem dJ1_charAt_3b067_9 : decode cJ1_charAt_3b067 9 = .ok (.sipush 255, 3) := by decide +kernel
theorem dJ1_charAt_3b067_12 : decode cJ1_charAt_3b067 12 = .ok (.iand, 1) := by decide +kernel
theorem dJ1_charAt_3b067_13 : decode cJ1_charAt_3b067 13 = .ok (.i2c, 1) := by decide +kernel
theorem dJ1_charAt_3b067_14 : decode cJ1_charAt_3b067 14 = .ok (.ireturn, 1) := by decide +kernel
theorem dJ7_fill_53178_0 : decode cJ7_fill_53178 0 = .ok (.iconst 0, 1) := by decide +kernel
theorem dJ7_fill_53178_1 : decode cJ7_fill_53178 1 = .ok (.istore_n 2, 1) := by decide +kernel
theorem dJ7_fill_53178_2 : decode cJ7_fill_53178 2 = .ok (.aload_n 0, 1) := by decide +kernel
theorem dJ7_fill_53178_3 : decode cJ7_fill_53178 3 = .ok (.arraylength, 1) := by decide +kernel
theorem dJ7_fill_53178_4 : decode cJ7_fill_53178 4 = .ok (.istore_n 3, 1) := by decide +kernel
theorem dJ7_fill_53178_5 : decode cJ7_fill_53178 5 = .ok (.iload_n 2, 1) := by decide +kernel
theorem dJ7_fill_53178_6 : decode cJ7_fill_53178 6 = .ok (.iload_n 3, 1) := by decide +kernel
theorem dJ7_fill_53178_7 : decode cJ7_fill_53178 7 = .ok (.if_icmp .ge 13, 3) := by decide +kernel
theorem dJ7_fill_53178_10 : decode cJ7_fill_53178 10 = .ok (.aload_n 0, 1) := by decide +kernel
theorem dJ7_fill_53178_11 : decode cJ7_fill_53178 11 = .ok (.iload_n 2, 1) := by decide +kernel
theorem dJ7_fill_53178_12 : decode cJ7_fill_53178 12 = .ok (.iload_n 1, 1) := by decide +kernel
theorem dJ7_fill_53178_13 : decode cJ7_fill_53178 13 = .ok (.iastore, 1) := by decide +kernel
theorem dJ7_fill_53178_14 : decode cJ7_fill_53178 14 = .ok (.iinc 2 1, 3) := by decide +kernel
theorem dJ7_fill_53178_17 : decode cJ7_fill_53178 17 = .ok (.goto (-12), 3) := by decide +kernel
theorem dJ7_fill_53178_20 : decode cJ7_fill_53178 20 = .ok (.return_, 1) := by decide +kernel
theorem dJ3_checkIndex_8e157_0 : decode cJ3_checkIndex_8e157 0 = .ok (.iload_n 0, 1) := by decide +kernel
theorem dJ3_checkIndex_8e157_1 : decode cJ3_checkIndex_8e157 1 = .ok (.ifCond .lt 8, 3) := by decide +kernel
theorem dJ3_checkIndex_8e157_4 : decode cJ3_checkIndex_8e157 4 = .ok (.iload_n 0, 1) := by decide +kernel
theorem dJ3_checkIndex_8e157_5 : decode cJ3_checkIndex_8e157 5 = .ok (.iload_n 1, 1) := by decide +kernel
theorem dJ3_checkIndex_8e157_6 : decode cJ3_checkIndex_8e157 6 = .ok (.if_icmp .lt 10, 3) := by decide +kernel
theorem dJ3_checkIndex_8e157_9 : decode cJ3_checkIndex_8e157 9 = .ok (.aload_n 2, 1) := by decide +kernel
theorem dJ3_checkIndex_8e157_10 : decode cJ3_checkIndex_8e157 10 = .ok (.iload_n 0, 1) := by decide +kernel
theorem dJ3_checkIndex_8e157_11 : decode cJ3_checkIndex_8e157 11 = .ok (.iload_n 1, 1) := by decide +kernel
theorem dJ3_checkIndex_8e157_12 : decode cJ3_checkIndex_8e157 12 = .ok (.invokestatic 95, 3) := by decide +kernel
theorem dJ3_checkIndex_8e157_15 : decode cJ3_checkIndex_8e157 15 = .ok (.athrow, 1) := by decide +kernel
theorem dJ3_checkIndex_8e157_16 : decode cJ3_checkIndex_8e157 16 = .ok (.iload_n 0, 1) := by decide +kernel
theorem dJ3_checkIndex_8e157_17 : decode cJ3_checkIndex_8e157 17 = .ok (.ireturn, 1) := by decide +kernel
def F_0 : Nat → Int32 := (upd (upd (upd (upd (upd (fillB (fun _ => 0) (fun _ => 0) 0 104) 0 40) 1 210) 2 630) 3 2) 4 5)
def F_1 : Nat → Int64 := (vp_updL (vp_updL (vp_updL (vp_updL (vp_updL (vp_updL (vp_updL (vp_updL (vp_updL (vp_updL (vp_updL (vp_updL (vp_updL (vp_updL (vp_updL (vp_updL (vp_updL (vp_updL (vp_updL (vp_updL (vp_updL (vp_updL (vp_updL (fun _ => 0) 0 521325929587) 1 126909394741093) 2 1836020596) 3 6906725) 4 2002874989) 5 7168366) 6 1650814564) 7 125848689468786) 8 1668441463) 9 1786080624) 10 1818583396) 11 1751738216) 12 28526) 13 495873782388) 14 28530) 15 6385252) 16 7237492) 17 1734702195) 18 418363302244) 19 1886745448) 20 1717921140) 21 131277443786868) 22 121450625394034)
def F_2 : Nat → Int32 := (upd (upd (upd (upd (upd (fillB F_0 (fun _ => 0) 0 104) 0 40) 1 210) 2 630) 3 2) 4 5)
def F_3 : Nat → Int32 := (fillB (fun _ => 0) (fun i => (upd (fillB (fun _ => 0) F_0 0 104) 115 1) (104 + i)) 0 24)
def F_4 : Nat → Int32 := (fillB (upd (fillB (fun _ => 0) F_0 0 104) 115 1) F_3 104 24)
def F_5 : Nat → Int32 := (upd (upd (upd (upd (upd (upd (upd (upd (fun _ => 0) 0 0) 1 0) 2 0) 3 0) 0 0) 1 0) 2 0) 3 0)
def F_6 : Nat → Int32 := (upd (upd (upd (upd (upd (upd (upd (upd (fun _ => 0) 0 39) 1 39) 2 39) 3 39) 0 39) 1 39) 2 39) 3 39)
def F_7 : Nat → Int32 := (va_cpy (fun _ => 0) (va_cpy (fun _ => 0) (fun _ => 0) 0 0 12) 0 0 12)
def F_8 : Nat → Int32 := (va_cpy (va_cpy (fun _ => 0) (fun _ => 0) 0 0 12) (va_cpy (fun _ => 0) (fun _ => 0) 0 0 12) 0 0 12)
def F_9 : Nat → Int32 := (va_cpy (upd (upd (upd (upd (fun _ => 0) 0 0) 1 0) 2 0) 3 0) (upd (upd (upd (upd (fun _ => 0) 0 0) 1 0) 2 0) 3 0) 0 0 4)
def F_10 : Nat → Int32 := (va_cpy (upd (upd (upd (upd (fun _ => 0) 0 39) 1 39) 2 39) 3 39) (upd (upd (upd (upd (fun _ => 0) 0 39) 1 39) 2 39) 3 39) 0 0 4)
def F_11 : Nat → Int32 := (va_cpy (upd (upd (upd (upd (fun _ => 0) 0 0) 1 0) 2 0) 3 0) (fun _ => 0) 0 0 4)
def F_12 : Nat → Int32 := (va_cpy (upd (upd (upd (upd (fun _ => 0) 0 39) 1 39) 2 39) 3 39) (fun _ => 0) 0 0 4)
def F_13 : Nat → Int32 := (va_cpy (va_cpy (fun _ => 0) (fun _ => 0) 0 0 12) (fun _ => 0) 0 0 12)
