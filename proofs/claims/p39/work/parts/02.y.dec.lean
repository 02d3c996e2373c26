theorem dX0_init_0 : decode cX0_init 0 = .ok (.aload_n 0, 1) := by decide +kernel
theorem dX0_init_1 : decode cX0_init 1 = .ok (.invokespecial 3, 3) := by decide +kernel
theorem dX0_init_4 : decode cX0_init 4 = .ok (.aload_n 0, 1) := by decide +kernel
theorem dX0_init_5 : decode cX0_init 5 = .ok (.bipush 12, 2) := by decide +kernel
theorem dX0_init_7 : decode cX0_init 7 = .ok (.newarray .int, 2) := by decide +kernel
theorem dX0_init_9 : decode cX0_init 9 = .ok (.putfield 9, 3) := by decide +kernel
theorem dX0_init_12 : decode cX0_init 12 = .ok (.aload_n 0, 1) := by decide +kernel
theorem dX0_init_13 : decode cX0_init 13 = .ok (.iconst 4, 1) := by decide +kernel
theorem dX0_init_14 : decode cX0_init 14 = .ok (.newarray .int, 2) := by decide +kernel
theorem dX0_init_16 : decode cX0_init 16 = .ok (.putfield 15, 3) := by decide +kernel
theorem dX0_init_19 : decode cX0_init 19 = .ok (.aload_n 0, 1) := by decide +kernel
theorem dX0_init_20 : decode cX0_init 20 = .ok (.iconst 0, 1) := by decide +kernel
theorem dX0_init_21 : decode cX0_init 21 = .ok (.putfield 18, 3) := by decide +kernel
theorem dX0_init_24 : decode cX0_init 24 = .ok (.aload_n 0, 1) := by decide +kernel
theorem dX0_init_25 : decode cX0_init 25 = .ok (.iconst 0, 1) := by decide +kernel
theorem dX0_init_26 : decode cX0_init 26 = .ok (.putfield 22, 3) := by decide +kernel
theorem dX0_init_29 : decode cX0_init 29 = .ok (.aload_n 0, 1) := by decide +kernel
theorem dX0_init_30 : decode cX0_init 30 = .ok (.iconst 0, 1) := by decide +kernel
theorem dX0_init_31 : decode cX0_init 31 = .ok (.putfield 26, 3) := by decide +kernel
theorem dX0_init_34 : decode cX0_init 34 = .ok (.return_, 1) := by decide +kernel
theorem dX0_note_0 : decode cX0_note 0 = .ok (.aload_n 0, 1) := by decide +kernel
theorem dX0_note_1 : decode cX0_note 1 = .ok (.iconst 1, 1) := by decide +kernel
theorem dX0_note_2 : decode cX0_note 2 = .ok (.putfield 22, 3) := by decide +kernel
theorem dX0_note_5 : decode cX0_note 5 = .ok (.aload_n 0, 1) := by decide +kernel
theorem dX0_note_6 : decode cX0_note 6 = .ok (.aload_n 1, 1) := by decide +kernel
theorem dX0_note_7 : decode cX0_note 7 = .ok (.getfield 29, 3) := by decide +kernel
theorem dX0_note_10 : decode cX0_note 10 = .ok (.putfield 26, 3) := by decide +kernel
theorem dX0_note_13 : decode cX0_note 13 = .ok (.aload_n 0, 1) := by decide +kernel
theorem dX0_note_14 : decode cX0_note 14 = .ok (.iload 4, 2) := by decide +kernel
theorem dX0_note_16 : decode cX0_note 16 = .ok (.putfield 18, 3) := by decide +kernel
theorem dX0_note_19 : decode cX0_note 19 = .ok (.aload_n 2, 1) := by decide +kernel
theorem dX0_note_20 : decode cX0_note 20 = .ok (.getfield 32, 3) := by decide +kernel
theorem dX0_note_23 : decode cX0_note 23 = .ok (.iconst 0, 1) := by decide +kernel
theorem dX0_note_24 : decode cX0_note 24 = .ok (.aload_n 0, 1) := by decide +kernel
theorem dX0_note_25 : decode cX0_note 25 = .ok (.getfield 15, 3) := by decide +kernel
theorem dX0_note_28 : decode cX0_note 28 = .ok (.iconst 0, 1) := by decide +kernel
theorem dX0_note_29 : decode cX0_note 29 = .ok (.iconst 4, 1) := by decide +kernel
theorem dX0_note_30 : decode cX0_note 30 = .ok (.invokestatic 35, 3) := by decide +kernel
theorem dX0_note_33 : decode cX0_note 33 = .ok (.iconst 0, 1) := by decide +kernel
theorem dX0_note_34 : decode cX0_note 34 = .ok (.istore 5, 2) := by decide +kernel
theorem dX0_note_36 : decode cX0_note 36 = .ok (.iload 5, 2) := by decide +kernel
theorem dX0_note_38 : decode cX0_note 38 = .ok (.aload_n 0, 1) := by decide +kernel
theorem dX0_note_39 : decode cX0_note 39 = .ok (.getfield 9, 3) := by decide +kernel
theorem dX0_note_42 : decode cX0_note 42 = .ok (.arraylength, 1) := by decide +kernel
theorem dX0_note_43 : decode cX0_note 43 = .ok (.if_icmp .ge 27, 3) := by decide +kernel
theorem dX0_note_46 : decode cX0_note 46 = .ok (.iload 5, 2) := by decide +kernel
theorem dX0_note_48 : decode cX0_note 48 = .ok (.aload_n 3, 1) := by decide +kernel
theorem dX0_note_49 : decode cX0_note 49 = .ok (.arraylength, 1) := by decide +kernel
theorem dX0_note_50 : decode cX0_note 50 = .ok (.if_icmp .ge 20, 3) := by decide +kernel
theorem dX0_note_53 : decode cX0_note 53 = .ok (.aload_n 0, 1) := by decide +kernel
theorem dX0_note_54 : decode cX0_note 54 = .ok (.getfield 9, 3) := by decide +kernel
theorem dX0_note_57 : decode cX0_note 57 = .ok (.iload 5, 2) := by decide +kernel
theorem dX0_note_59 : decode cX0_note 59 = .ok (.aload_n 3, 1) := by decide +kernel
theorem dX0_note_60 : decode cX0_note 60 = .ok (.iload 5, 2) := by decide +kernel
theorem dX0_note_62 : decode cX0_note 62 = .ok (.iaload, 1) := by decide +kernel
theorem dX0_note_63 : decode cX0_note 63 = .ok (.iastore, 1) := by decide +kernel
theorem dX0_note_64 : decode cX0_note 64 = .ok (.iinc 5 1, 3) := by decide +kernel
theorem dX0_note_67 : decode cX0_note 67 = .ok (.goto (-31), 3) := by decide +kernel
theorem dX0_note_70 : decode cX0_note 70 = .ok (.return_, 1) := by decide +kernel
theorem dX0_valueAt_0 : decode cX0_valueAt 0 = .ok (.aload_n 0, 1) := by decide +kernel
theorem dX0_valueAt_1 : decode cX0_valueAt 1 = .ok (.getfield 22, 3) := by decide +kernel
theorem dX0_valueAt_4 : decode cX0_valueAt 4 = .ok (.ifCond .eq 33, 3) := by decide +kernel
theorem dX0_valueAt_7 : decode cX0_valueAt 7 = .ok (.iload_n 1, 1) := by decide +kernel
theorem dX0_valueAt_8 : decode cX0_valueAt 8 = .ok (.ifCond .lt 29, 3) := by decide +kernel
theorem dX0_valueAt_11 : decode cX0_valueAt 11 = .ok (.iload_n 1, 1) := by decide +kernel
theorem dX0_valueAt_12 : decode cX0_valueAt 12 = .ok (.aload_n 0, 1) := by decide +kernel
theorem dX0_valueAt_13 : decode cX0_valueAt 13 = .ok (.getfield 18, 3) := by decide +kernel
theorem dX0_valueAt_16 : decode cX0_valueAt 16 = .ok (.if_icmp .ge 21, 3) := by decide +kernel
theorem dX0_valueAt_19 : decode cX0_valueAt 19 = .ok (.iload_n 1, 1) := by decide +kernel
theorem dX0_valueAt_20 : decode cX0_valueAt 20 = .ok (.aload_n 0, 1) := by decide +kernel
theorem dX0_valueAt_21 : decode cX0_valueAt 21 = .ok (.getfield 9, 3) := by decide +kernel
theorem dX0_valueAt_24 : decode cX0_valueAt 24 = .ok (.arraylength, 1) := by decide +kernel
theorem dX0_valueAt_25 : decode cX0_valueAt 25 = .ok (.if_icmp .ge 12, 3) := by decide +kernel
theorem dX0_valueAt_28 : decode cX0_valueAt 28 = .ok (.aload_n 0, 1) := by decide +kernel
theorem dX0_valueAt_29 : decode cX0_valueAt 29 = .ok (.getfield 9, 3) := by decide +kernel
theorem dX0_valueAt_32 : decode cX0_valueAt 32 = .ok (.iload_n 1, 1) := by decide +kernel
theorem dX0_valueAt_33 : decode cX0_valueAt 33 = .ok (.iaload, 1) := by decide +kernel
theorem dX0_valueAt_34 : decode cX0_valueAt 34 = .ok (.goto 4, 3) := by decide +kernel
theorem dX0_valueAt_37 : decode cX0_valueAt 37 = .ok (.iconst (-1), 1) := by decide +kernel
theorem dX0_valueAt_38 : decode cX0_valueAt 38 = .ok (.ireturn, 1) := by decide +kernel
theorem dX0_holdsFor_0 : decode cX0_holdsFor 0 = .ok (.aload_n 0, 1) := by decide +kernel
theorem dX0_holdsFor_1 : decode cX0_holdsFor 1 = .ok (.getfield 22, 3) := by decide +kernel
theorem dX0_holdsFor_4 : decode cX0_holdsFor 4 = .ok (.ifCond .eq 25, 3) := by decide +kernel
theorem dX0_holdsFor_7 : decode cX0_holdsFor 7 = .ok (.aload_n 2, 1) := by decide +kernel
theorem dX0_holdsFor_8 : decode cX0_holdsFor 8 = .ok (.getfield 41, 3) := by decide +kernel
theorem dX0_holdsFor_11 : decode cX0_holdsFor 11 = .ok (.ifCond .eq 18, 3) := by decide +kernel
theorem dX0_holdsFor_14 : decode cX0_holdsFor 14 = .ok (.aload_n 0, 1) := by decide +kernel
theorem dX0_holdsFor_15 : decode cX0_holdsFor 15 = .ok (.getfield 26, 3) := by decide +kernel
theorem dX0_holdsFor_18 : decode cX0_holdsFor 18 = .ok (.aload_n 1, 1) := by decide +kernel
theorem dX0_holdsFor_19 : decode cX0_holdsFor 19 = .ok (.getfield 29, 3) := by decide +kernel
theorem dX0_holdsFor_22 : decode cX0_holdsFor 22 = .ok (.if_icmp .ne 7, 3) := by decide +kernel
theorem dX0_holdsFor_25 : decode cX0_holdsFor 25 = .ok (.iconst 1, 1) := by decide +kernel
theorem dX0_holdsFor_26 : decode cX0_holdsFor 26 = .ok (.goto 4, 3) := by decide +kernel
theorem dX0_holdsFor_29 : decode cX0_holdsFor 29 = .ok (.iconst 0, 1) := by decide +kernel
theorem dX0_holdsFor_30 : decode cX0_holdsFor 30 = .ok (.istore_n 3, 1) := by decide +kernel
theorem dX0_holdsFor_31 : decode cX0_holdsFor 31 = .ok (.iconst 0, 1) := by decide +kernel
theorem dX0_holdsFor_32 : decode cX0_holdsFor 32 = .ok (.istore 4, 2) := by decide +kernel
theorem dX0_holdsFor_34 : decode cX0_holdsFor 34 = .ok (.iload 4, 2) := by decide +kernel
theorem dX0_holdsFor_36 : decode cX0_holdsFor 36 = .ok (.iconst 4, 1) := by decide +kernel
theorem dX0_holdsFor_37 : decode cX0_holdsFor 37 = .ok (.if_icmp .ge 36, 3) := by decide +kernel
theorem dX0_holdsFor_40 : decode cX0_holdsFor 40 = .ok (.iload_n 3, 1) := by decide +kernel
theorem dX0_holdsFor_41 : decode cX0_holdsFor 41 = .ok (.ifCond .eq 24, 3) := by decide +kernel
theorem dX0_holdsFor_44 : decode cX0_holdsFor 44 = .ok (.aload_n 0, 1) := by decide +kernel
theorem dX0_holdsFor_45 : decode cX0_holdsFor 45 = .ok (.getfield 15, 3) := by decide +kernel
theorem dX0_holdsFor_48 : decode cX0_holdsFor 48 = .ok (.iload 4, 2) := by decide +kernel
theorem dX0_holdsFor_50 : decode cX0_holdsFor 50 = .ok (.iaload, 1) := by decide +kernel
theorem dX0_holdsFor_51 : decode cX0_holdsFor 51 = .ok (.aload_n 2, 1) := by decide +kernel
theorem dX0_holdsFor_52 : decode cX0_holdsFor 52 = .ok (.getfield 32, 3) := by decide +kernel
theorem dX0_holdsFor_55 : decode cX0_holdsFor 55 = .ok (.iload 4, 2) := by decide +kernel
theorem dX0_holdsFor_57 : decode cX0_holdsFor 57 = .ok (.iaload, 1) := by decide +kernel
theorem dX0_holdsFor_58 : decode cX0_holdsFor 58 = .ok (.if_icmp .ne 7, 3) := by decide +kernel
theorem dX0_holdsFor_61 : decode cX0_holdsFor 61 = .ok (.iconst 1, 1) := by decide +kernel
theorem dX0_holdsFor_62 : decode cX0_holdsFor 62 = .ok (.goto 4, 3) := by decide +kernel
theorem dX0_holdsFor_65 : decode cX0_holdsFor 65 = .ok (.iconst 0, 1) := by decide +kernel
theorem dX0_holdsFor_66 : decode cX0_holdsFor 66 = .ok (.istore_n 3, 1) := by decide +kernel
theorem dX0_holdsFor_67 : decode cX0_holdsFor 67 = .ok (.iinc 4 1, 3) := by decide +kernel
theorem dX0_holdsFor_70 : decode cX0_holdsFor 70 = .ok (.goto (-36), 3) := by decide +kernel
theorem dX0_holdsFor_73 : decode cX0_holdsFor 73 = .ok (.iload_n 3, 1) := by decide +kernel
theorem dX0_holdsFor_74 : decode cX0_holdsFor 74 = .ok (.ireturn, 1) := by decide +kernel
theorem dX1_init_0 : decode cX1_init 0 = .ok (.aload_n 0, 1) := by decide +kernel
theorem dX1_init_1 : decode cX1_init 1 = .ok (.invokespecial 3, 3) := by decide +kernel
theorem dX1_init_4 : decode cX1_init 4 = .ok (.aload_n 0, 1) := by decide +kernel
theorem dX1_init_5 : decode cX1_init 5 = .ok (.getstatic 9, 3) := by decide +kernel
theorem dX1_init_8 : decode cX1_init 8 = .ok (.invokevirtual 13, 3) := by decide +kernel
theorem dX1_init_11 : decode cX1_init 11 = .ok (.checkcast 14, 3) := by decide +kernel
theorem dX1_init_14 : decode cX1_init 14 = .ok (.putfield 18, 3) := by decide +kernel
theorem dX1_init_17 : decode cX1_init 17 = .ok (.aload_n 0, 1) := by decide +kernel
theorem dX1_init_18 : decode cX1_init 18 = .ok (.bipush 12, 2) := by decide +kernel
theorem dX1_init_20 : decode cX1_init 20 = .ok (.newarray .long, 2) := by decide +kernel
theorem dX1_init_22 : decode cX1_init 22 = .ok (.putfield 23, 3) := by decide +kernel
theorem dX1_init_25 : decode cX1_init 25 = .ok (.aload_n 0, 1) := by decide +kernel
theorem dX1_init_26 : decode cX1_init 26 = .ok (.bipush 12, 2) := by decide +kernel
theorem dX1_init_28 : decode cX1_init 28 = .ok (.newarray .int, 2) := by decide +kernel
theorem dX1_init_30 : decode cX1_init 30 = .ok (.putfield 27, 3) := by decide +kernel
theorem dX1_init_33 : decode cX1_init 33 = .ok (.aload_n 0, 1) := by decide +kernel
theorem dX1_init_34 : decode cX1_init 34 = .ok (.bipush 12, 2) := by decide +kernel
theorem dX1_init_36 : decode cX1_init 36 = .ok (.newarray .int, 2) := by decide +kernel
theorem dX1_init_38 : decode cX1_init 38 = .ok (.putfield 30, 3) := by decide +kernel
theorem dX1_init_41 : decode cX1_init 41 = .ok (.aload_n 0, 1) := by decide +kernel
theorem dX1_init_42 : decode cX1_init 42 = .ok (.bipush 12, 2) := by decide +kernel
theorem dX1_init_44 : decode cX1_init 44 = .ok (.newarray .int, 2) := by decide +kernel
theorem dX1_init_46 : decode cX1_init 46 = .ok (.putfield 33, 3) := by decide +kernel
theorem dX1_init_49 : decode cX1_init 49 = .ok (.aload_n 0, 1) := by decide +kernel
theorem dX1_init_50 : decode cX1_init 50 = .ok (.bipush 12, 2) := by decide +kernel
theorem dX1_init_52 : decode cX1_init 52 = .ok (.newarray .int, 2) := by decide +kernel
theorem dX1_init_54 : decode cX1_init 54 = .ok (.putfield 36, 3) := by decide +kernel
theorem dX1_init_57 : decode cX1_init 57 = .ok (.aload_n 0, 1) := by decide +kernel
theorem dX1_init_58 : decode cX1_init 58 = .ok (.bipush 12, 2) := by decide +kernel
theorem dX1_init_60 : decode cX1_init 60 = .ok (.newarray .int, 2) := by decide +kernel
theorem dX1_init_62 : decode cX1_init 62 = .ok (.putfield 39, 3) := by decide +kernel
theorem dX1_init_65 : decode cX1_init 65 = .ok (.aload_n 0, 1) := by decide +kernel
theorem dX1_init_66 : decode cX1_init 66 = .ok (.bipush 12, 2) := by decide +kernel
theorem dX1_init_68 : decode cX1_init 68 = .ok (.newarray .int, 2) := by decide +kernel
theorem dX1_init_70 : decode cX1_init 70 = .ok (.putfield 42, 3) := by decide +kernel
theorem dX1_init_73 : decode cX1_init 73 = .ok (.aload_n 0, 1) := by decide +kernel
theorem dX1_init_74 : decode cX1_init 74 = .ok (.bipush 12, 2) := by decide +kernel
theorem dX1_init_76 : decode cX1_init 76 = .ok (.newarray .int, 2) := by decide +kernel
theorem dX1_init_78 : decode cX1_init 78 = .ok (.putfield 45, 3) := by decide +kernel
theorem dX1_init_81 : decode cX1_init 81 = .ok (.aload_n 0, 1) := by decide +kernel
theorem dX1_init_82 : decode cX1_init 82 = .ok (.bipush 6, 2) := by decide +kernel
theorem dX1_init_84 : decode cX1_init 84 = .ok (.newarray .long, 2) := by decide +kernel
theorem dX1_init_86 : decode cX1_init 86 = .ok (.putfield 48, 3) := by decide +kernel
theorem dX1_init_89 : decode cX1_init 89 = .ok (.aload_n 0, 1) := by decide +kernel
theorem dX1_init_90 : decode cX1_init 90 = .ok (.bipush 6, 2) := by decide +kernel
theorem dX1_init_92 : decode cX1_init 92 = .ok (.newarray .int, 2) := by decide +kernel
theorem dX1_init_94 : decode cX1_init 94 = .ok (.putfield 51, 3) := by decide +kernel
theorem dX1_init_97 : decode cX1_init 97 = .ok (.aload_n 0, 1) := by decide +kernel
theorem dX1_init_98 : decode cX1_init 98 = .ok (.bipush 6, 2) := by decide +kernel
theorem dX1_init_100 : decode cX1_init 100 = .ok (.newarray .int, 2) := by decide +kernel
theorem dX1_init_102 : decode cX1_init 102 = .ok (.putfield 54, 3) := by decide +kernel
theorem dX1_init_105 : decode cX1_init 105 = .ok (.aload_n 0, 1) := by decide +kernel
theorem dX1_init_106 : decode cX1_init 106 = .ok (.iconst 0, 1) := by decide +kernel
theorem dX1_init_107 : decode cX1_init 107 = .ok (.putfield 57, 3) := by decide +kernel
theorem dX1_init_110 : decode cX1_init 110 = .ok (.aload_n 0, 1) := by decide +kernel
theorem dX1_init_111 : decode cX1_init 111 = .ok (.iconst 0, 1) := by decide +kernel
theorem dX1_init_112 : decode cX1_init 112 = .ok (.putfield 61, 3) := by decide +kernel
theorem dX1_init_115 : decode cX1_init 115 = .ok (.aload_n 0, 1) := by decide +kernel
theorem dX1_init_116 : decode cX1_init 116 = .ok (.iconst 0, 1) := by decide +kernel
theorem dX1_init_117 : decode cX1_init 117 = .ok (.putfield 64, 3) := by decide +kernel
theorem dX1_init_120 : decode cX1_init 120 = .ok (.aload_n 0, 1) := by decide +kernel
theorem dX1_init_121 : decode cX1_init 121 = .ok (.iconst 0, 1) := by decide +kernel
theorem dX1_init_122 : decode cX1_init 122 = .ok (.putfield 67, 3) := by decide +kernel
theorem dX1_init_125 : decode cX1_init 125 = .ok (.aload_n 0, 1) := by decide +kernel
theorem dX1_init_126 : decode cX1_init 126 = .ok (.iconst 0, 1) := by decide +kernel
theorem dX1_init_127 : decode cX1_init 127 = .ok (.putfield 70, 3) := by decide +kernel
theorem dX1_init_130 : decode cX1_init 130 = .ok (.aload_n 0, 1) := by decide +kernel
theorem dX1_init_131 : decode cX1_init 131 = .ok (.iload_n 1, 1) := by decide +kernel
theorem dX1_init_132 : decode cX1_init 132 = .ok (.putfield 73, 3) := by decide +kernel
theorem dX1_init_135 : decode cX1_init 135 = .ok (.return_, 1) := by decide +kernel
theorem dX1_manNamed_0 : decode cX1_manNamed 0 = .ok (.aload_n 0, 1) := by decide +kernel
theorem dX1_manNamed_1 : decode cX1_manNamed 1 = .ok (.getfield 23, 3) := by decide +kernel
theorem dX1_manNamed_4 : decode cX1_manNamed 4 = .ok (.aload_n 0, 1) := by decide +kernel
theorem dX1_manNamed_5 : decode cX1_manNamed 5 = .ok (.getfield 57, 3) := by decide +kernel
theorem dX1_manNamed_8 : decode cX1_manNamed 8 = .ok (.lload_n 1, 1) := by decide +kernel
theorem dX1_manNamed_9 : decode cX1_manNamed 9 = .ok (.invokestatic 76, 3) := by decide +kernel
theorem dX1_manNamed_12 : decode cX1_manNamed 12 = .ok (.ireturn, 1) := by decide +kernel
theorem dX1_runnerNamed_0 : decode cX1_runnerNamed 0 = .ok (.aload_n 0, 1) := by decide +kernel
theorem dX1_runnerNamed_1 : decode cX1_runnerNamed 1 = .ok (.getfield 48, 3) := by decide +kernel
theorem dX1_runnerNamed_4 : decode cX1_runnerNamed 4 = .ok (.aload_n 0, 1) := by decide +kernel
theorem dX1_runnerNamed_5 : decode cX1_runnerNamed 5 = .ok (.getfield 64, 3) := by decide +kernel
theorem dX1_runnerNamed_8 : decode cX1_runnerNamed 8 = .ok (.lload_n 1, 1) := by decide +kernel
theorem dX1_runnerNamed_9 : decode cX1_runnerNamed 9 = .ok (.invokestatic 76, 3) := by decide +kernel
theorem dX1_runnerNamed_12 : decode cX1_runnerNamed 12 = .ok (.ireturn, 1) := by decide +kernel
theorem dX1_indexOf_0 : decode cX1_indexOf 0 = .ok (.iconst 0, 1) := by decide +kernel
theorem dX1_indexOf_1 : decode cX1_indexOf 1 = .ok (.istore 4, 2) := by decide +kernel
theorem dX1_indexOf_3 : decode cX1_indexOf 3 = .ok (.iload 4, 2) := by decide +kernel
theorem dX1_indexOf_5 : decode cX1_indexOf 5 = .ok (.iload_n 1, 1) := by decide +kernel
theorem dX1_indexOf_6 : decode cX1_indexOf 6 = .ok (.if_icmp .ge 28, 3) := by decide +kernel
theorem dX1_indexOf_9 : decode cX1_indexOf 9 = .ok (.iload 4, 2) := by decide +kernel
theorem dX1_indexOf_11 : decode cX1_indexOf 11 = .ok (.aload_n 0, 1) := by decide +kernel
theorem dX1_indexOf_12 : decode cX1_indexOf 12 = .ok (.arraylength, 1) := by decide +kernel
theorem dX1_indexOf_13 : decode cX1_indexOf 13 = .ok (.if_icmp .ge 21, 3) := by decide +kernel
theorem dX1_indexOf_16 : decode cX1_indexOf 16 = .ok (.aload_n 0, 1) := by decide +kernel
theorem dX1_indexOf_17 : decode cX1_indexOf 17 = .ok (.iload 4, 2) := by decide +kernel
theorem dX1_indexOf_19 : decode cX1_indexOf 19 = .ok (.laload, 1) := by decide +kernel
theorem dX1_indexOf_20 : decode cX1_indexOf 20 = .ok (.lload_n 2, 1) := by decide +kernel
theorem dX1_indexOf_21 : decode cX1_indexOf 21 = .ok (.lcmp, 1) := by decide +kernel
theorem dX1_indexOf_22 : decode cX1_indexOf 22 = .ok (.ifCond .ne 6, 3) := by decide +kernel
theorem dX1_indexOf_25 : decode cX1_indexOf 25 = .ok (.iload 4, 2) := by decide +kernel
theorem dX1_indexOf_27 : decode cX1_indexOf 27 = .ok (.ireturn, 1) := by decide +kernel
theorem dX1_indexOf_28 : decode cX1_indexOf 28 = .ok (.iinc 4 1, 3) := by decide +kernel
theorem dX1_indexOf_31 : decode cX1_indexOf 31 = .ok (.goto (-28), 3) := by decide +kernel
theorem dX1_indexOf_34 : decode cX1_indexOf 34 = .ok (.iconst (-1), 1) := by decide +kernel
theorem dX1_indexOf_35 : decode cX1_indexOf 35 = .ok (.ireturn, 1) := by decide +kernel
theorem dX1_runnerTakes_0 : decode cX1_runnerTakes 0 = .ok (.iload_n 1, 1) := by decide +kernel
theorem dX1_runnerTakes_1 : decode cX1_runnerTakes 1 = .ok (.ifCond .lt 11, 3) := by decide +kernel
theorem dX1_runnerTakes_4 : decode cX1_runnerTakes 4 = .ok (.iload_n 1, 1) := by decide +kernel
theorem dX1_runnerTakes_5 : decode cX1_runnerTakes 5 = .ok (.aload_n 0, 1) := by decide +kernel
theorem dX1_runnerTakes_6 : decode cX1_runnerTakes 6 = .ok (.getfield 64, 3) := by decide +kernel
theorem dX1_runnerTakes_9 : decode cX1_runnerTakes 9 = .ok (.if_icmp .lt 5, 3) := by decide +kernel
theorem dX1_runnerTakes_12 : decode cX1_runnerTakes 12 = .ok (.iconst 0, 1) := by decide +kernel
theorem dX1_runnerTakes_13 : decode cX1_runnerTakes 13 = .ok (.ireturn, 1) := by decide +kernel
theorem dX1_runnerTakes_14 : decode cX1_runnerTakes 14 = .ok (.aload_n 0, 1) := by decide +kernel
theorem dX1_runnerTakes_15 : decode cX1_runnerTakes 15 = .ok (.getfield 18, 3) := by decide +kernel
theorem dX1_runnerTakes_18 : decode cX1_runnerTakes 18 = .ok (.iconst 4, 1) := by decide +kernel
theorem dX1_runnerTakes_19 : decode cX1_runnerTakes 19 = .ok (.iaload, 1) := by decide +kernel
theorem dX1_runnerTakes_20 : decode cX1_runnerTakes 20 = .ok (.iload_n 2, 1) := by decide +kernel
theorem dX1_runnerTakes_21 : decode cX1_runnerTakes 21 = .ok (.iconst 3, 1) := by decide +kernel
theorem dX1_runnerTakes_22 : decode cX1_runnerTakes 22 = .ok (.idiv, 1) := by decide +kernel
theorem dX1_runnerTakes_23 : decode cX1_runnerTakes 23 = .ok (.iadd, 1) := by decide +kernel
theorem dX1_runnerTakes_24 : decode cX1_runnerTakes 24 = .ok (.istore_n 3, 1) := by decide +kernel
theorem dX1_runnerTakes_25 : decode cX1_runnerTakes 25 = .ok (.aload_n 0, 1) := by decide +kernel
theorem dX1_runnerTakes_26 : decode cX1_runnerTakes 26 = .ok (.getfield 54, 3) := by decide +kernel
theorem dX1_runnerTakes_29 : decode cX1_runnerTakes 29 = .ok (.iload_n 1, 1) := by decide +kernel
theorem dX1_runnerTakes_30 : decode cX1_runnerTakes 30 = .ok (.iaload, 1) := by decide +kernel
theorem dX1_runnerTakes_31 : decode cX1_runnerTakes 31 = .ok (.iload_n 3, 1) := by decide +kernel
theorem dX1_runnerTakes_32 : decode cX1_runnerTakes 32 = .ok (.aload_n 0, 1) := by decide +kernel
theorem dX1_runnerTakes_33 : decode cX1_runnerTakes 33 = .ok (.getfield 51, 3) := by decide +kernel
theorem dX1_runnerTakes_36 : decode cX1_runnerTakes 36 = .ok (.iload_n 1, 1) := by decide +kernel
theorem dX1_runnerTakes_37 : decode cX1_runnerTakes 37 = .ok (.iaload, 1) := by decide +kernel
theorem dX1_runnerTakes_38 : decode cX1_runnerTakes 38 = .ok (.isub, 1) := by decide +kernel
theorem dX1_runnerTakes_39 : decode cX1_runnerTakes 39 = .ok (.invokestatic 80, 3) := by decide +kernel
theorem dX1_runnerTakes_42 : decode cX1_runnerTakes 42 = .ok (.imul, 1) := by decide +kernel
theorem dX1_runnerTakes_43 : decode cX1_runnerTakes 43 = .ok (.iconst 4, 1) := by decide +kernel
theorem dX1_runnerTakes_44 : decode cX1_runnerTakes 44 = .ok (.idiv, 1) := by decide +kernel
theorem dX1_runnerTakes_45 : decode cX1_runnerTakes 45 = .ok (.ireturn, 1) := by decide +kernel
theorem dX1_steadyChange_0 : decode cX1_steadyChange 0 = .ok (.aload_n 0, 1) := by decide +kernel
theorem dX1_steadyChange_1 : decode cX1_steadyChange 1 = .ok (.getfield 39, 3) := by decide +kernel
theorem dX1_steadyChange_4 : decode cX1_steadyChange 4 = .ok (.iload_n 1, 1) := by decide +kernel
theorem dX1_steadyChange_5 : decode cX1_steadyChange 5 = .ok (.iaload, 1) := by decide +kernel
theorem dX1_steadyChange_6 : decode cX1_steadyChange 6 = .ok (.iload_n 3, 1) := by decide +kernel
theorem dX1_steadyChange_7 : decode cX1_steadyChange 7 = .ok (.imul, 1) := by decide +kernel
theorem dX1_steadyChange_8 : decode cX1_steadyChange 8 = .ok (.bipush 100, 2) := by decide +kernel
theorem dX1_steadyChange_10 : decode cX1_steadyChange 10 = .ok (.idiv, 1) := by decide +kernel
theorem dX1_steadyChange_11 : decode cX1_steadyChange 11 = .ok (.aload_n 0, 1) := by decide +kernel
theorem dX1_steadyChange_12 : decode cX1_steadyChange 12 = .ok (.getfield 18, 3) := by decide +kernel
theorem dX1_steadyChange_15 : decode cX1_steadyChange 15 = .ok (.iconst 3, 1) := by decide +kernel
theorem dX1_steadyChange_16 : decode cX1_steadyChange 16 = .ok (.iaload, 1) := by decide +kernel
theorem dX1_steadyChange_17 : decode cX1_steadyChange 17 = .ok (.isub, 1) := by decide +kernel
theorem dX1_steadyChange_18 : decode cX1_steadyChange 18 = .ok (.aload_n 2, 1) := by decide +kernel
theorem dX1_steadyChange_19 : decode cX1_steadyChange 19 = .ok (.getfield 86, 3) := by decide +kernel
theorem dX1_steadyChange_22 : decode cX1_steadyChange 22 = .ok (.iconst 5, 1) := by decide +kernel
theorem dX1_steadyChange_23 : decode cX1_steadyChange 23 = .ok (.idiv, 1) := by decide +kernel
theorem dX1_steadyChange_24 : decode cX1_steadyChange 24 = .ok (.isub, 1) := by decide +kernel
theorem dX1_steadyChange_25 : decode cX1_steadyChange 25 = .ok (.aload_n 0, 1) := by decide +kernel
theorem dX1_steadyChange_26 : decode cX1_steadyChange 26 = .ok (.aload_n 2, 1) := by decide +kernel
theorem dX1_steadyChange_27 : decode cX1_steadyChange 27 = .ok (.getfield 91, 3) := by decide +kernel
theorem dX1_steadyChange_30 : decode cX1_steadyChange 30 = .ok (.aload_n 2, 1) := by decide +kernel
theorem dX1_steadyChange_31 : decode cX1_steadyChange 31 = .ok (.getfield 86, 3) := by decide +kernel
theorem dX1_steadyChange_34 : decode cX1_steadyChange 34 = .ok (.invokevirtual 94, 3) := by decide +kernel
theorem dX1_steadyChange_37 : decode cX1_steadyChange 37 = .ok (.isub, 1) := by decide +kernel
theorem dX1_steadyChange_38 : decode cX1_steadyChange 38 = .ok (.ireturn, 1) := by decide +kernel
theorem dX1_heightCost_0 : decode cX1_heightCost 0 = .ok (.iconst 3, 1) := by decide +kernel
theorem dX1_heightCost_1 : decode cX1_heightCost 1 = .ok (.iload_n 2, 1) := by decide +kernel
theorem dX1_heightCost_2 : decode cX1_heightCost 2 = .ok (.aload_n 0, 1) := by decide +kernel
theorem dX1_heightCost_3 : decode cX1_heightCost 3 = .ok (.getfield 42, 3) := by decide +kernel
theorem dX1_heightCost_6 : decode cX1_heightCost 6 = .ok (.iload_n 1, 1) := by decide +kernel
theorem dX1_heightCost_7 : decode cX1_heightCost 7 = .ok (.iaload, 1) := by decide +kernel
theorem dX1_heightCost_8 : decode cX1_heightCost 8 = .ok (.isub, 1) := by decide +kernel
theorem dX1_heightCost_9 : decode cX1_heightCost 9 = .ok (.invokestatic 80, 3) := by decide +kernel
theorem dX1_heightCost_12 : decode cX1_heightCost 12 = .ok (.imul, 1) := by decide +kernel
theorem dX1_heightCost_13 : decode cX1_heightCost 13 = .ok (.iconst 2, 1) := by decide +kernel
theorem dX1_heightCost_14 : decode cX1_heightCost 14 = .ok (.iload_n 2, 1) := by decide +kernel
theorem dX1_heightCost_15 : decode cX1_heightCost 15 = .ok (.iload_n 3, 1) := by decide +kernel
theorem dX1_heightCost_16 : decode cX1_heightCost 16 = .ok (.isub, 1) := by decide +kernel
theorem dX1_heightCost_17 : decode cX1_heightCost 17 = .ok (.invokestatic 80, 3) := by decide +kernel
theorem dX1_heightCost_20 : decode cX1_heightCost 20 = .ok (.imul, 1) := by decide +kernel
theorem dX1_heightCost_21 : decode cX1_heightCost 21 = .ok (.iadd, 1) := by decide +kernel
theorem dX1_heightCost_22 : decode cX1_heightCost 22 = .ok (.ireturn, 1) := by decide +kernel
theorem dX1_turnsOver_0 : decode cX1_turnsOver 0 = .ok (.iload_n 2, 1) := by decide +kernel
theorem dX1_turnsOver_1 : decode cX1_turnsOver 1 = .ok (.iload_n 3, 1) := by decide +kernel
theorem dX1_turnsOver_2 : decode cX1_turnsOver 2 = .ok (.imul, 1) := by decide +kernel
theorem dX1_turnsOver_3 : decode cX1_turnsOver 3 = .ok (.bipush 20, 2) := by decide +kernel
theorem dX1_turnsOver_5 : decode cX1_turnsOver 5 = .ok (.aload_n 0, 1) := by decide +kernel
theorem dX1_turnsOver_6 : decode cX1_turnsOver 6 = .ok (.getfield 45, 3) := by decide +kernel
theorem dX1_turnsOver_9 : decode cX1_turnsOver 9 = .ok (.iload_n 1, 1) := by decide +kernel
theorem dX1_turnsOver_10 : decode cX1_turnsOver 10 = .ok (.iaload, 1) := by decide +kernel
theorem dX1_turnsOver_11 : decode cX1_turnsOver 11 = .ok (.imul, 1) := by decide +kernel
theorem dX1_turnsOver_12 : decode cX1_turnsOver 12 = .ok (.if_icmp .le 7, 3) := by decide +kernel
theorem dX1_turnsOver_15 : decode cX1_turnsOver 15 = .ok (.iconst 1, 1) := by decide +kernel
theorem dX1_turnsOver_16 : decode cX1_turnsOver 16 = .ok (.goto 4, 3) := by decide +kernel
theorem dX1_turnsOver_19 : decode cX1_turnsOver 19 = .ok (.iconst 0, 1) := by decide +kernel
theorem dX1_turnsOver_20 : decode cX1_turnsOver 20 = .ok (.ireturn, 1) := by decide +kernel
theorem dX1_readFrom_0 : decode cX1_readFrom 0 = .ok (.aload_n 0, 1) := by decide +kernel
theorem dX1_readFrom_1 : decode cX1_readFrom 1 = .ok (.iconst 0, 1) := by decide +kernel
theorem dX1_readFrom_2 : decode cX1_readFrom 2 = .ok (.putfield 67, 3) := by decide +kernel
theorem dX1_readFrom_5 : decode cX1_readFrom 5 = .ok (.aload_n 0, 1) := by decide +kernel
theorem dX1_readFrom_6 : decode cX1_readFrom 6 = .ok (.getfield 67, 3) := by decide +kernel
theorem dX1_readFrom_9 : decode cX1_readFrom 9 = .ok (.sipush 900, 3) := by decide +kernel
theorem dX1_readFrom_12 : decode cX1_readFrom 12 = .ok (.if_icmp .ge 42, 3) := by decide +kernel
theorem dX1_readFrom_15 : decode cX1_readFrom 15 = .ok (.aload_n 1, 1) := by decide +kernel
theorem dX1_readFrom_16 : decode cX1_readFrom 16 = .ok (.getfield 98, 3) := by decide +kernel
theorem dX1_readFrom_19 : decode cX1_readFrom 19 = .ok (.ifCond .eq 35, 3) := by decide +kernel
theorem dX1_readFrom_22 : decode cX1_readFrom 22 = .ok (.aload_n 0, 1) := by decide +kernel
theorem dX1_readFrom_23 : decode cX1_readFrom 23 = .ok (.aload_n 1, 1) := by decide +kernel
theorem dX1_readFrom_24 : decode cX1_readFrom 24 = .ok (.invokevirtual 103, 3) := by decide +kernel
theorem dX1_readFrom_27 : decode cX1_readFrom 27 = .ok (.ifCond .eq 12, 3) := by decide +kernel
theorem dX1_readFrom_30 : decode cX1_readFrom 30 = .ok (.aload_n 1, 1) := by decide +kernel
theorem dX1_readFrom_31 : decode cX1_readFrom 31 = .ok (.bipush 59, 2) := by decide +kernel
theorem dX1_readFrom_33 : decode cX1_readFrom 33 = .ok (.invokevirtual 107, 3) := by decide +kernel
theorem dX1_readFrom_36 : decode cX1_readFrom 36 = .ok (.ifCond .ne 5, 3) := by decide +kernel
theorem dX1_readFrom_39 : decode cX1_readFrom 39 = .ok (.iconst 0, 1) := by decide +kernel
theorem dX1_readFrom_40 : decode cX1_readFrom 40 = .ok (.ireturn, 1) := by decide +kernel
theorem dX1_readFrom_41 : decode cX1_readFrom 41 = .ok (.aload_n 0, 1) := by decide +kernel
theorem dX1_readFrom_42 : decode cX1_readFrom 42 = .ok (.dup, 1) := by decide +kernel
theorem dX1_readFrom_43 : decode cX1_readFrom 43 = .ok (.getfield 67, 3) := by decide +kernel
theorem dX1_readFrom_46 : decode cX1_readFrom 46 = .ok (.iconst 1, 1) := by decide +kernel
theorem dX1_readFrom_47 : decode cX1_readFrom 47 = .ok (.iadd, 1) := by decide +kernel
theorem dX1_readFrom_48 : decode cX1_readFrom 48 = .ok (.putfield 67, 3) := by decide +kernel
theorem dX1_readFrom_51 : decode cX1_readFrom 51 = .ok (.goto (-46), 3) := by decide +kernel
theorem dX1_readFrom_54 : decode cX1_readFrom 54 = .ok (.iconst 1, 1) := by decide +kernel
theorem dX1_readFrom_55 : decode cX1_readFrom 55 = .ok (.ireturn, 1) := by decide +kernel
theorem dX1_readLine_0 : decode cX1_readLine 0 = .ok (.aload_n 1, 1) := by decide +kernel
theorem dX1_readLine_1 : decode cX1_readLine 1 = .ok (.invokevirtual 111, 3) := by decide +kernel
theorem dX1_readLine_4 : decode cX1_readLine 4 = .ok (.tableswitch 76 0 7 #[48, 48, 48, 48, 48, 58, 64, 70], 48) := by decide +kernel
theorem dX1_readLine_52 : decode cX1_readLine 52 = .ok (.aload_n 0, 1) := by decide +kernel
theorem dX1_readLine_53 : decode cX1_readLine 53 = .ok (.aload_n 1, 1) := by decide +kernel
theorem dX1_readLine_54 : decode cX1_readLine 54 = .ok (.aload_n 1, 1) := by decide +kernel
theorem dX1_readLine_55 : decode cX1_readLine 55 = .ok (.invokevirtual 111, 3) := by decide +kernel
theorem dX1_readLine_58 : decode cX1_readLine 58 = .ok (.invokevirtual 115, 3) := by decide +kernel
theorem dX1_readLine_61 : decode cX1_readLine 61 = .ok (.ireturn, 1) := by decide +kernel
theorem dX1_readLine_62 : decode cX1_readLine 62 = .ok (.aload_n 0, 1) := by decide +kernel
theorem dX1_readLine_63 : decode cX1_readLine 63 = .ok (.aload_n 1, 1) := by decide +kernel
theorem dX1_readLine_64 : decode cX1_readLine 64 = .ok (.invokevirtual 119, 3) := by decide +kernel
theorem dX1_readLine_67 : decode cX1_readLine 67 = .ok (.ireturn, 1) := by decide +kernel
theorem dX1_readLine_68 : decode cX1_readLine 68 = .ok (.aload_n 0, 1) := by decide +kernel
theorem dX1_readLine_69 : decode cX1_readLine 69 = .ok (.aload_n 1, 1) := by decide +kernel
theorem dX1_readLine_70 : decode cX1_readLine 70 = .ok (.invokevirtual 122, 3) := by decide +kernel
theorem dX1_readLine_73 : decode cX1_readLine 73 = .ok (.ireturn, 1) := by decide +kernel
theorem dX1_readLine_74 : decode cX1_readLine 74 = .ok (.aload_n 0, 1) := by decide +kernel
theorem dX1_readLine_75 : decode cX1_readLine 75 = .ok (.aload_n 1, 1) := by decide +kernel
theorem dX1_readLine_76 : decode cX1_readLine 76 = .ok (.invokevirtual 125, 3) := by decide +kernel
theorem dX1_readLine_79 : decode cX1_readLine 79 = .ok (.ireturn, 1) := by decide +kernel
theorem dX1_readLine_80 : decode cX1_readLine 80 = .ok (.aload_n 1, 1) := by decide +kernel
theorem dX1_readLine_81 : decode cX1_readLine 81 = .ok (.iconst 1, 1) := by decide +kernel
theorem dX1_readLine_82 : decode cX1_readLine 82 = .ok (.invokevirtual 128, 3) := by decide +kernel
theorem dX1_readLine_85 : decode cX1_readLine 85 = .ok (.ireturn, 1) := by decide +kernel
theorem dX1_readSetting_0 : decode cX1_readSetting 0 = .ok (.aload_n 0, 1) := by decide +kernel
theorem dX1_readSetting_1 : decode cX1_readSetting 1 = .ok (.getfield 70, 3) := by decide +kernel
theorem dX1_readSetting_4 : decode cX1_readSetting 4 = .ok (.iload_n 2, 1) := by decide +kernel
theorem dX1_readSetting_5 : decode cX1_readSetting 5 = .ok (.ishr, 1) := by decide +kernel
theorem dX1_readSetting_6 : decode cX1_readSetting 6 = .ok (.iconst 1, 1) := by decide +kernel
theorem dX1_readSetting_7 : decode cX1_readSetting 7 = .ok (.iand, 1) := by decide +kernel
theorem dX1_readSetting_8 : decode cX1_readSetting 8 = .ok (.ifCond .eq 9, 3) := by decide +kernel
theorem dX1_readSetting_11 : decode cX1_readSetting 11 = .ok (.aload_n 1, 1) := by decide +kernel
theorem dX1_readSetting_12 : decode cX1_readSetting 12 = .ok (.iconst 3, 1) := by decide +kernel
theorem dX1_readSetting_13 : decode cX1_readSetting 13 = .ok (.invokevirtual 128, 3) := by decide +kernel
theorem dX1_readSetting_16 : decode cX1_readSetting 16 = .ok (.ireturn, 1) := by decide +kernel
theorem dX1_readSetting_17 : decode cX1_readSetting 17 = .ok (.aload_n 0, 1) := by decide +kernel
theorem dX1_readSetting_18 : decode cX1_readSetting 18 = .ok (.dup, 1) := by decide +kernel
theorem dX1_readSetting_19 : decode cX1_readSetting 19 = .ok (.getfield 70, 3) := by decide +kernel
theorem dX1_readSetting_22 : decode cX1_readSetting 22 = .ok (.iconst 1, 1) := by decide +kernel
theorem dX1_readSetting_23 : decode cX1_readSetting 23 = .ok (.iload_n 2, 1) := by decide +kernel
theorem dX1_readSetting_24 : decode cX1_readSetting 24 = .ok (.ishl, 1) := by decide +kernel
theorem dX1_readSetting_25 : decode cX1_readSetting 25 = .ok (.ior, 1) := by decide +kernel
theorem dX1_readSetting_26 : decode cX1_readSetting 26 = .ok (.putfield 70, 3) := by decide +kernel
theorem dX1_readSetting_29 : decode cX1_readSetting 29 = .ok (.aload_n 1, 1) := by decide +kernel
theorem dX1_readSetting_30 : decode cX1_readSetting 30 = .ok (.invokevirtual 131, 3) := by decide +kernel
theorem dX1_readSetting_33 : decode cX1_readSetting 33 = .ok (.aload_n 1, 1) := by decide +kernel
theorem dX1_readSetting_34 : decode cX1_readSetting 34 = .ok (.aload_n 0, 1) := by decide +kernel
theorem dX1_readSetting_35 : decode cX1_readSetting 35 = .ok (.getfield 18, 3) := by decide +kernel
theorem dX1_readSetting_38 : decode cX1_readSetting 38 = .ok (.iload_n 2, 1) := by decide +kernel
theorem dX1_readSetting_39 : decode cX1_readSetting 39 = .ok (.getstatic 134, 3) := by decide +kernel
theorem dX1_readSetting_42 : decode cX1_readSetting 42 = .ok (.iload_n 2, 1) := by decide +kernel
theorem dX1_readSetting_43 : decode cX1_readSetting 43 = .ok (.iaload, 1) := by decide +kernel
theorem dX1_readSetting_44 : decode cX1_readSetting 44 = .ok (.getstatic 137, 3) := by decide +kernel
theorem dX1_readSetting_47 : decode cX1_readSetting 47 = .ok (.iload_n 2, 1) := by decide +kernel
theorem dX1_readSetting_48 : decode cX1_readSetting 48 = .ok (.iaload, 1) := by decide +kernel
theorem dX1_readSetting_49 : decode cX1_readSetting 49 = .ok (.invokevirtual 140, 3) := by decide +kernel
theorem dX1_readSetting_52 : decode cX1_readSetting 52 = .ok (.ireturn, 1) := by decide +kernel
theorem dX1_readMan_0 : decode cX1_readMan 0 = .ok (.aload_n 0, 1) := by decide +kernel
theorem dX1_readMan_1 : decode cX1_readMan 1 = .ok (.getfield 57, 3) := by decide +kernel
theorem dX1_readMan_4 : decode cX1_readMan 4 = .ok (.bipush 12, 2) := by decide +kernel
theorem dX1_readMan_6 : decode cX1_readMan 6 = .ok (.if_icmp .lt 9, 3) := by decide +kernel
theorem dX1_readMan_9 : decode cX1_readMan 9 = .ok (.aload_n 1, 1) := by decide +kernel
theorem dX1_readMan_10 : decode cX1_readMan 10 = .ok (.iconst 4, 1) := by decide +kernel
theorem dX1_readMan_11 : decode cX1_readMan 11 = .ok (.invokevirtual 128, 3) := by decide +kernel
theorem dX1_readMan_14 : decode cX1_readMan 14 = .ok (.ireturn, 1) := by decide +kernel
theorem dX1_readMan_15 : decode cX1_readMan 15 = .ok (.aload_n 1, 1) := by decide +kernel
theorem dX1_readMan_16 : decode cX1_readMan 16 = .ok (.invokevirtual 131, 3) := by decide +kernel
theorem dX1_readMan_19 : decode cX1_readMan 19 = .ok (.aload_n 0, 1) := by decide +kernel
theorem dX1_readMan_20 : decode cX1_readMan 20 = .ok (.aload_n 1, 1) := by decide +kernel
theorem dX1_readMan_21 : decode cX1_readMan 21 = .ok (.aload_n 0, 1) := by decide +kernel
theorem dX1_readMan_22 : decode cX1_readMan 22 = .ok (.getfield 23, 3) := by decide +kernel
theorem dX1_readMan_25 : decode cX1_readMan 25 = .ok (.aload_n 0, 1) := by decide +kernel
theorem dX1_readMan_26 : decode cX1_readMan 26 = .ok (.getfield 57, 3) := by decide +kernel
theorem dX1_readMan_29 : decode cX1_readMan 29 = .ok (.invokevirtual 144, 3) := by decide +kernel
theorem dX1_readMan_32 : decode cX1_readMan 32 = .ok (.ifCond .eq 63, 3) := by decide +kernel
theorem dX1_readMan_35 : decode cX1_readMan 35 = .ok (.aload_n 1, 1) := by decide +kernel
theorem dX1_readMan_36 : decode cX1_readMan 36 = .ok (.aload_n 0, 1) := by decide +kernel
theorem dX1_readMan_37 : decode cX1_readMan 37 = .ok (.getfield 27, 3) := by decide +kernel
theorem dX1_readMan_40 : decode cX1_readMan 40 = .ok (.aload_n 0, 1) := by decide +kernel
theorem dX1_readMan_41 : decode cX1_readMan 41 = .ok (.getfield 57, 3) := by decide +kernel
theorem dX1_readMan_44 : decode cX1_readMan 44 = .ok (.iconst 1, 1) := by decide +kernel
theorem dX1_readMan_45 : decode cX1_readMan 45 = .ok (.bipush 9, 2) := by decide +kernel
theorem dX1_readMan_47 : decode cX1_readMan 47 = .ok (.invokevirtual 140, 3) := by decide +kernel
theorem dX1_readMan_50 : decode cX1_readMan 50 = .ok (.ifCond .eq 45, 3) := by decide +kernel
theorem dX1_readMan_53 : decode cX1_readMan 53 = .ok (.aload_n 1, 1) := by decide +kernel
theorem dX1_readMan_54 : decode cX1_readMan 54 = .ok (.aload_n 0, 1) := by decide +kernel
theorem dX1_readMan_55 : decode cX1_readMan 55 = .ok (.getfield 30, 3) := by decide +kernel
theorem dX1_readMan_58 : decode cX1_readMan 58 = .ok (.aload_n 0, 1) := by decide +kernel
theorem dX1_readMan_59 : decode cX1_readMan 59 = .ok (.getfield 57, 3) := by decide +kernel
theorem dX1_readMan_62 : decode cX1_readMan 62 = .ok (.iconst 1, 1) := by decide +kernel
theorem dX1_readMan_63 : decode cX1_readMan 63 = .ok (.bipush 9, 2) := by decide +kernel
theorem dX1_readMan_65 : decode cX1_readMan 65 = .ok (.invokevirtual 140, 3) := by decide +kernel
theorem dX1_readMan_68 : decode cX1_readMan 68 = .ok (.ifCond .eq 27, 3) := by decide +kernel
theorem dX1_readMan_71 : decode cX1_readMan 71 = .ok (.aload_n 1, 1) := by decide +kernel
theorem dX1_readMan_72 : decode cX1_readMan 72 = .ok (.aload_n 0, 1) := by decide +kernel
theorem dX1_readMan_73 : decode cX1_readMan 73 = .ok (.getfield 33, 3) := by decide +kernel
theorem dX1_readMan_76 : decode cX1_readMan 76 = .ok (.aload_n 0, 1) := by decide +kernel
theorem dX1_readMan_77 : decode cX1_readMan 77 = .ok (.getfield 57, 3) := by decide +kernel
theorem dX1_readMan_80 : decode cX1_readMan 80 = .ok (.bipush 50, 2) := by decide +kernel
theorem dX1_readMan_82 : decode cX1_readMan 82 = .ok (.sipush 150, 3) := by decide +kernel
theorem dX1_readMan_85 : decode cX1_readMan 85 = .ok (.invokevirtual 140, 3) := by decide +kernel
theorem dX1_readMan_88 : decode cX1_readMan 88 = .ok (.ifCond .eq 7, 3) := by decide +kernel
theorem dX1_readMan_91 : decode cX1_readMan 91 = .ok (.iconst 1, 1) := by decide +kernel
theorem dX1_readMan_92 : decode cX1_readMan 92 = .ok (.goto 4, 3) := by decide +kernel
theorem dX1_readMan_95 : decode cX1_readMan 95 = .ok (.iconst 0, 1) := by decide +kernel
theorem dX1_readMan_96 : decode cX1_readMan 96 = .ok (.istore_n 2, 1) := by decide +kernel
theorem dX1_readMan_97 : decode cX1_readMan 97 = .ok (.aload_n 0, 1) := by decide +kernel
theorem dX1_readMan_98 : decode cX1_readMan 98 = .ok (.dup, 1) := by decide +kernel
theorem dX1_readMan_99 : decode cX1_readMan 99 = .ok (.getfield 57, 3) := by decide +kernel
theorem dX1_readMan_102 : decode cX1_readMan 102 = .ok (.iload_n 2, 1) := by decide +kernel
theorem dX1_readMan_103 : decode cX1_readMan 103 = .ok (.ifCond .eq 7, 3) := by decide +kernel
theorem dX1_readMan_106 : decode cX1_readMan 106 = .ok (.iconst 1, 1) := by decide +kernel
theorem dX1_readMan_107 : decode cX1_readMan 107 = .ok (.goto 4, 3) := by decide +kernel
theorem dX1_readMan_110 : decode cX1_readMan 110 = .ok (.iconst 0, 1) := by decide +kernel
theorem dX1_readMan_111 : decode cX1_readMan 111 = .ok (.iadd, 1) := by decide +kernel
theorem dX1_readMan_112 : decode cX1_readMan 112 = .ok (.putfield 57, 3) := by decide +kernel
theorem dX1_readMan_115 : decode cX1_readMan 115 = .ok (.iload_n 2, 1) := by decide +kernel
theorem dX1_readMan_116 : decode cX1_readMan 116 = .ok (.ireturn, 1) := by decide +kernel
theorem dX1_readBend_0 : decode cX1_readBend 0 = .ok (.aload_n 0, 1) := by decide +kernel
theorem dX1_readBend_1 : decode cX1_readBend 1 = .ok (.getfield 61, 3) := by decide +kernel
theorem dX1_readBend_4 : decode cX1_readBend 4 = .ok (.bipush 12, 2) := by decide +kernel
theorem dX1_readBend_6 : decode cX1_readBend 6 = .ok (.if_icmp .lt 9, 3) := by decide +kernel
theorem dX1_readBend_9 : decode cX1_readBend 9 = .ok (.aload_n 1, 1) := by decide +kernel
theorem dX1_readBend_10 : decode cX1_readBend 10 = .ok (.iconst 4, 1) := by decide +kernel
theorem dX1_readBend_11 : decode cX1_readBend 11 = .ok (.invokevirtual 128, 3) := by decide +kernel
theorem dX1_readBend_14 : decode cX1_readBend 14 = .ok (.ireturn, 1) := by decide +kernel
theorem dX1_readBend_15 : decode cX1_readBend 15 = .ok (.aload_n 1, 1) := by decide +kernel
theorem dX1_readBend_16 : decode cX1_readBend 16 = .ok (.invokevirtual 131, 3) := by decide +kernel
theorem dX1_readBend_19 : decode cX1_readBend 19 = .ok (.aload_n 1, 1) := by decide +kernel
theorem dX1_readBend_20 : decode cX1_readBend 20 = .ok (.aload_n 0, 1) := by decide +kernel
theorem dX1_readBend_21 : decode cX1_readBend 21 = .ok (.getfield 36, 3) := by decide +kernel
theorem dX1_readBend_24 : decode cX1_readBend 24 = .ok (.aload_n 0, 1) := by decide +kernel
theorem dX1_readBend_25 : decode cX1_readBend 25 = .ok (.getfield 61, 3) := by decide +kernel
theorem dX1_readBend_28 : decode cX1_readBend 28 = .ok (.iconst 1, 1) := by decide +kernel
theorem dX1_readBend_29 : decode cX1_readBend 29 = .ok (.bipush 9, 2) := by decide +kernel
theorem dX1_readBend_31 : decode cX1_readBend 31 = .ok (.invokevirtual 140, 3) := by decide +kernel
theorem dX1_readBend_34 : decode cX1_readBend 34 = .ok (.ifCond .eq 61, 3) := by decide +kernel
theorem dX1_readBend_37 : decode cX1_readBend 37 = .ok (.aload_n 1, 1) := by decide +kernel
theorem dX1_readBend_38 : decode cX1_readBend 38 = .ok (.aload_n 0, 1) := by decide +kernel
theorem dX1_readBend_39 : decode cX1_readBend 39 = .ok (.getfield 39, 3) := by decide +kernel
theorem dX1_readBend_42 : decode cX1_readBend 42 = .ok (.aload_n 0, 1) := by decide +kernel
theorem dX1_readBend_43 : decode cX1_readBend 43 = .ok (.getfield 61, 3) := by decide +kernel
theorem dX1_readBend_46 : decode cX1_readBend 46 = .ok (.iconst 0, 1) := by decide +kernel
theorem dX1_readBend_47 : decode cX1_readBend 47 = .ok (.bipush 9, 2) := by decide +kernel
theorem dX1_readBend_49 : decode cX1_readBend 49 = .ok (.invokevirtual 140, 3) := by decide +kernel
theorem dX1_readBend_52 : decode cX1_readBend 52 = .ok (.ifCond .eq 43, 3) := by decide +kernel
theorem dX1_readBend_55 : decode cX1_readBend 55 = .ok (.aload_n 1, 1) := by decide +kernel
theorem dX1_readBend_56 : decode cX1_readBend 56 = .ok (.aload_n 0, 1) := by decide +kernel
theorem dX1_readBend_57 : decode cX1_readBend 57 = .ok (.getfield 42, 3) := by decide +kernel
theorem dX1_readBend_60 : decode cX1_readBend 60 = .ok (.aload_n 0, 1) := by decide +kernel
theorem dX1_readBend_61 : decode cX1_readBend 61 = .ok (.getfield 61, 3) := by decide +kernel
theorem dX1_readBend_64 : decode cX1_readBend 64 = .ok (.iconst 0, 1) := by decide +kernel
theorem dX1_readBend_65 : decode cX1_readBend 65 = .ok (.bipush 9, 2) := by decide +kernel
theorem dX1_readBend_67 : decode cX1_readBend 67 = .ok (.invokevirtual 140, 3) := by decide +kernel
theorem dX1_readBend_70 : decode cX1_readBend 70 = .ok (.ifCond .eq 25, 3) := by decide +kernel
theorem dX1_readBend_73 : decode cX1_readBend 73 = .ok (.aload_n 1, 1) := by decide +kernel
theorem dX1_readBend_74 : decode cX1_readBend 74 = .ok (.aload_n 0, 1) := by decide +kernel
theorem dX1_readBend_75 : decode cX1_readBend 75 = .ok (.getfield 45, 3) := by decide +kernel
theorem dX1_readBend_78 : decode cX1_readBend 78 = .ok (.aload_n 0, 1) := by decide +kernel
theorem dX1_readBend_79 : decode cX1_readBend 79 = .ok (.getfield 61, 3) := by decide +kernel
theorem dX1_readBend_82 : decode cX1_readBend 82 = .ok (.iconst 1, 1) := by decide +kernel
theorem dX1_readBend_83 : decode cX1_readBend 83 = .ok (.bipush 99, 2) := by decide +kernel
theorem dX1_readBend_85 : decode cX1_readBend 85 = .ok (.invokevirtual 140, 3) := by decide +kernel
theorem dX1_readBend_88 : decode cX1_readBend 88 = .ok (.ifCond .eq 7, 3) := by decide +kernel
theorem dX1_readBend_91 : decode cX1_readBend 91 = .ok (.iconst 1, 1) := by decide +kernel
theorem dX1_readBend_92 : decode cX1_readBend 92 = .ok (.goto 4, 3) := by decide +kernel
theorem dX1_readBend_95 : decode cX1_readBend 95 = .ok (.iconst 0, 1) := by decide +kernel
theorem dX1_readBend_96 : decode cX1_readBend 96 = .ok (.istore_n 2, 1) := by decide +kernel
theorem dX1_readBend_97 : decode cX1_readBend 97 = .ok (.aload_n 0, 1) := by decide +kernel
theorem dX1_readBend_98 : decode cX1_readBend 98 = .ok (.dup, 1) := by decide +kernel
theorem dX1_readBend_99 : decode cX1_readBend 99 = .ok (.getfield 61, 3) := by decide +kernel
theorem dX1_readBend_102 : decode cX1_readBend 102 = .ok (.iload_n 2, 1) := by decide +kernel
theorem dX1_readBend_103 : decode cX1_readBend 103 = .ok (.ifCond .eq 7, 3) := by decide +kernel
theorem dX1_readBend_106 : decode cX1_readBend 106 = .ok (.iconst 1, 1) := by decide +kernel
theorem dX1_readBend_107 : decode cX1_readBend 107 = .ok (.goto 4, 3) := by decide +kernel
theorem dX1_readBend_110 : decode cX1_readBend 110 = .ok (.iconst 0, 1) := by decide +kernel
theorem dX1_readBend_111 : decode cX1_readBend 111 = .ok (.iadd, 1) := by decide +kernel
theorem dX1_readBend_112 : decode cX1_readBend 112 = .ok (.putfield 61, 3) := by decide +kernel
theorem dX1_readBend_115 : decode cX1_readBend 115 = .ok (.iload_n 2, 1) := by decide +kernel
theorem dX1_readBend_116 : decode cX1_readBend 116 = .ok (.ireturn, 1) := by decide +kernel
theorem dX1_readRunner_0 : decode cX1_readRunner 0 = .ok (.aload_n 0, 1) := by decide +kernel
theorem dX1_readRunner_1 : decode cX1_readRunner 1 = .ok (.getfield 64, 3) := by decide +kernel
theorem dX1_readRunner_4 : decode cX1_readRunner 4 = .ok (.bipush 6, 2) := by decide +kernel
theorem dX1_readRunner_6 : decode cX1_readRunner 6 = .ok (.if_icmp .lt 9, 3) := by decide +kernel
theorem dX1_readRunner_9 : decode cX1_readRunner 9 = .ok (.aload_n 1, 1) := by decide +kernel
theorem dX1_readRunner_10 : decode cX1_readRunner 10 = .ok (.iconst 4, 1) := by decide +kernel
theorem dX1_readRunner_11 : decode cX1_readRunner 11 = .ok (.invokevirtual 128, 3) := by decide +kernel
theorem dX1_readRunner_14 : decode cX1_readRunner 14 = .ok (.ireturn, 1) := by decide +kernel
theorem dX1_readRunner_15 : decode cX1_readRunner 15 = .ok (.aload_n 1, 1) := by decide +kernel
theorem dX1_readRunner_16 : decode cX1_readRunner 16 = .ok (.invokevirtual 131, 3) := by decide +kernel
theorem dX1_readRunner_19 : decode cX1_readRunner 19 = .ok (.aload_n 0, 1) := by decide +kernel
theorem dX1_readRunner_20 : decode cX1_readRunner 20 = .ok (.aload_n 1, 1) := by decide +kernel
theorem dX1_readRunner_21 : decode cX1_readRunner 21 = .ok (.aload_n 0, 1) := by decide +kernel
theorem dX1_readRunner_22 : decode cX1_readRunner 22 = .ok (.getfield 48, 3) := by decide +kernel
theorem dX1_readRunner_25 : decode cX1_readRunner 25 = .ok (.aload_n 0, 1) := by decide +kernel
theorem dX1_readRunner_26 : decode cX1_readRunner 26 = .ok (.getfield 64, 3) := by decide +kernel
theorem dX1_readRunner_29 : decode cX1_readRunner 29 = .ok (.invokevirtual 144, 3) := by decide +kernel
theorem dX1_readRunner_32 : decode cX1_readRunner 32 = .ok (.ifCond .eq 43, 3) := by decide +kernel
theorem dX1_readRunner_35 : decode cX1_readRunner 35 = .ok (.aload_n 1, 1) := by decide +kernel
theorem dX1_readRunner_36 : decode cX1_readRunner 36 = .ok (.aload_n 0, 1) := by decide +kernel
theorem dX1_readRunner_37 : decode cX1_readRunner 37 = .ok (.getfield 51, 3) := by decide +kernel
theorem dX1_readRunner_40 : decode cX1_readRunner 40 = .ok (.aload_n 0, 1) := by decide +kernel
theorem dX1_readRunner_41 : decode cX1_readRunner 41 = .ok (.getfield 64, 3) := by decide +kernel
theorem dX1_readRunner_44 : decode cX1_readRunner 44 = .ok (.iconst 0, 1) := by decide +kernel
theorem dX1_readRunner_45 : decode cX1_readRunner 45 = .ok (.bipush 20, 2) := by decide +kernel
theorem dX1_readRunner_47 : decode cX1_readRunner 47 = .ok (.invokevirtual 140, 3) := by decide +kernel
theorem dX1_readRunner_50 : decode cX1_readRunner 50 = .ok (.ifCond .eq 25, 3) := by decide +kernel
theorem dX1_readRunner_53 : decode cX1_readRunner 53 = .ok (.aload_n 1, 1) := by decide +kernel
theorem dX1_readRunner_54 : decode cX1_readRunner 54 = .ok (.aload_n 0, 1) := by decide +kernel
theorem dX1_readRunner_55 : decode cX1_readRunner 55 = .ok (.getfield 54, 3) := by decide +kernel
theorem dX1_readRunner_58 : decode cX1_readRunner 58 = .ok (.aload_n 0, 1) := by decide +kernel
theorem dX1_readRunner_59 : decode cX1_readRunner 59 = .ok (.getfield 64, 3) := by decide +kernel
theorem dX1_readRunner_62 : decode cX1_readRunner 62 = .ok (.iconst 0, 1) := by decide +kernel
theorem dX1_readRunner_63 : decode cX1_readRunner 63 = .ok (.bipush 9, 2) := by decide +kernel
theorem dX1_readRunner_65 : decode cX1_readRunner 65 = .ok (.invokevirtual 140, 3) := by decide +kernel
theorem dX1_readRunner_68 : decode cX1_readRunner 68 = .ok (.ifCond .eq 7, 3) := by decide +kernel
theorem dX1_readRunner_71 : decode cX1_readRunner 71 = .ok (.iconst 1, 1) := by decide +kernel
theorem dX1_readRunner_72 : decode cX1_readRunner 72 = .ok (.goto 4, 3) := by decide +kernel
theorem dX1_readRunner_75 : decode cX1_readRunner 75 = .ok (.iconst 0, 1) := by decide +kernel
theorem dX1_readRunner_76 : decode cX1_readRunner 76 = .ok (.istore_n 2, 1) := by decide +kernel
theorem dX1_readRunner_77 : decode cX1_readRunner 77 = .ok (.aload_n 0, 1) := by decide +kernel
theorem dX1_readRunner_78 : decode cX1_readRunner 78 = .ok (.dup, 1) := by decide +kernel
theorem dX1_readRunner_79 : decode cX1_readRunner 79 = .ok (.getfield 64, 3) := by decide +kernel
theorem dX1_readRunner_82 : decode cX1_readRunner 82 = .ok (.iload_n 2, 1) := by decide +kernel
theorem dX1_readRunner_83 : decode cX1_readRunner 83 = .ok (.ifCond .eq 7, 3) := by decide +kernel
theorem dX1_readRunner_86 : decode cX1_readRunner 86 = .ok (.iconst 1, 1) := by decide +kernel
theorem dX1_readRunner_87 : decode cX1_readRunner 87 = .ok (.goto 4, 3) := by decide +kernel
theorem dX1_readRunner_90 : decode cX1_readRunner 90 = .ok (.iconst 0, 1) := by decide +kernel
theorem dX1_readRunner_91 : decode cX1_readRunner 91 = .ok (.iadd, 1) := by decide +kernel
theorem dX1_readRunner_92 : decode cX1_readRunner 92 = .ok (.putfield 64, 3) := by decide +kernel
theorem dX1_readRunner_95 : decode cX1_readRunner 95 = .ok (.iload_n 2, 1) := by decide +kernel
theorem dX1_readRunner_96 : decode cX1_readRunner 96 = .ok (.ireturn, 1) := by decide +kernel
theorem dX1_readName_0 : decode cX1_readName 0 = .ok (.aload_n 1, 1) := by decide +kernel
theorem dX1_readName_1 : decode cX1_readName 1 = .ok (.invokevirtual 148, 3) := by decide +kernel
theorem dX1_readName_4 : decode cX1_readName 4 = .ok (.ifCond .ne 9, 3) := by decide +kernel
theorem dX1_readName_7 : decode cX1_readName 7 = .ok (.aload_n 1, 1) := by decide +kernel
theorem dX1_readName_8 : decode cX1_readName 8 = .ok (.iconst 1, 1) := by decide +kernel
theorem dX1_readName_9 : decode cX1_readName 9 = .ok (.invokevirtual 128, 3) := by decide +kernel
theorem dX1_readName_12 : decode cX1_readName 12 = .ok (.ireturn, 1) := by decide +kernel
theorem dX1_readName_13 : decode cX1_readName 13 = .ok (.aload_n 0, 1) := by decide +kernel
theorem dX1_readName_14 : decode cX1_readName 14 = .ok (.aload_n 1, 1) := by decide +kernel
theorem dX1_readName_15 : decode cX1_readName 15 = .ok (.getfield 152, 3) := by decide +kernel
theorem dX1_readName_18 : decode cX1_readName 18 = .ok (.invokevirtual 156, 3) := by decide +kernel
theorem dX1_readName_21 : decode cX1_readName 21 = .ok (.iconst (-1), 1) := by decide +kernel
theorem dX1_readName_22 : decode cX1_readName 22 = .ok (.if_icmp .ne 15, 3) := by decide +kernel
theorem dX1_readName_25 : decode cX1_readName 25 = .ok (.aload_n 0, 1) := by decide +kernel
theorem dX1_readName_26 : decode cX1_readName 26 = .ok (.aload_n 1, 1) := by decide +kernel
theorem dX1_readName_27 : decode cX1_readName 27 = .ok (.getfield 152, 3) := by decide +kernel
theorem dX1_readName_30 : decode cX1_readName 30 = .ok (.invokevirtual 160, 3) := by decide +kernel
theorem dX1_readName_33 : decode cX1_readName 33 = .ok (.iconst (-1), 1) := by decide +kernel
theorem dX1_readName_34 : decode cX1_readName 34 = .ok (.if_icmp .eq 9, 3) := by decide +kernel
theorem dX1_readName_37 : decode cX1_readName 37 = .ok (.aload_n 1, 1) := by decide +kernel
theorem dX1_readName_38 : decode cX1_readName 38 = .ok (.iconst 3, 1) := by decide +kernel
theorem dX1_readName_39 : decode cX1_readName 39 = .ok (.invokevirtual 128, 3) := by decide +kernel
theorem dX1_readName_42 : decode cX1_readName 42 = .ok (.ireturn, 1) := by decide +kernel
theorem dX1_readName_43 : decode cX1_readName 43 = .ok (.aload_n 2, 1) := by decide +kernel
theorem dX1_readName_44 : decode cX1_readName 44 = .ok (.iload_n 3, 1) := by decide +kernel
theorem dX1_readName_45 : decode cX1_readName 45 = .ok (.aload_n 1, 1) := by decide +kernel
theorem dX1_readName_46 : decode cX1_readName 46 = .ok (.getfield 152, 3) := by decide +kernel
theorem dX1_readName_49 : decode cX1_readName 49 = .ok (.lastore, 1) := by decide +kernel
theorem dX1_readName_50 : decode cX1_readName 50 = .ok (.aload_n 1, 1) := by decide +kernel
theorem dX1_readName_51 : decode cX1_readName 51 = .ok (.invokevirtual 131, 3) := by decide +kernel
theorem dX1_readName_54 : decode cX1_readName 54 = .ok (.iconst 1, 1) := by decide +kernel
theorem dX1_readName_55 : decode cX1_readName 55 = .ok (.ireturn, 1) := by decide +kernel
theorem dX2_init_0 : decode cX2_init 0 = .ok (.aload_n 0, 1) := by decide +kernel
theorem dX2_init_1 : decode cX2_init 1 = .ok (.invokespecial 1, 3) := by decide +kernel
theorem dX2_init_4 : decode cX2_init 4 = .ok (.aload_n 0, 1) := by decide +kernel
theorem dX2_init_5 : decode cX2_init 5 = .ok (.new 7, 3) := by decide +kernel
theorem dX2_init_8 : decode cX2_init 8 = .ok (.dup, 1) := by decide +kernel
theorem dX2_init_9 : decode cX2_init 9 = .ok (.invokespecial 9, 3) := by decide +kernel
theorem dX2_init_12 : decode cX2_init 12 = .ok (.putfield 10, 3) := by decide +kernel
theorem dX2_init_15 : decode cX2_init 15 = .ok (.aload_n 0, 1) := by decide +kernel
theorem dX2_init_16 : decode cX2_init 16 = .ok (.new 7, 3) := by decide +kernel
theorem dX2_init_19 : decode cX2_init 19 = .ok (.dup, 1) := by decide +kernel
theorem dX2_init_20 : decode cX2_init 20 = .ok (.invokespecial 9, 3) := by decide +kernel
theorem dX2_init_23 : decode cX2_init 23 = .ok (.putfield 16, 3) := by decide +kernel
theorem dX2_init_26 : decode cX2_init 26 = .ok (.aload_n 0, 1) := by decide +kernel
theorem dX2_init_27 : decode cX2_init 27 = .ok (.aconst_null, 1) := by decide +kernel
theorem dX2_init_28 : decode cX2_init 28 = .ok (.putfield 19, 3) := by decide +kernel
theorem dX2_init_31 : decode cX2_init 31 = .ok (.aload_n 0, 1) := by decide +kernel
theorem dX2_init_32 : decode cX2_init 32 = .ok (.aconst_null, 1) := by decide +kernel
theorem dX2_init_33 : decode cX2_init 33 = .ok (.putfield 23, 3) := by decide +kernel
theorem dX2_init_36 : decode cX2_init 36 = .ok (.aload_n 0, 1) := by decide +kernel
theorem dX2_init_37 : decode cX2_init 37 = .ok (.iconst 0, 1) := by decide +kernel
theorem dX2_init_38 : decode cX2_init 38 = .ok (.putfield 27, 3) := by decide +kernel
theorem dX2_init_41 : decode cX2_init 41 = .ok (.return_, 1) := by decide +kernel
theorem dX3_init_0 : decode cX3_init 0 = .ok (.aload_n 0, 1) := by decide +kernel
theorem dX3_init_1 : decode cX3_init 1 = .ok (.invokespecial 5, 3) := by decide +kernel
theorem dX3_init_4 : decode cX3_init 4 = .ok (.aload_n 0, 1) := by decide +kernel
theorem dX3_init_5 : decode cX3_init 5 = .ok (.iconst 4, 1) := by decide +kernel
theorem dX3_init_6 : decode cX3_init 6 = .ok (.newarray .int, 2) := by decide +kernel
theorem dX3_init_8 : decode cX3_init 8 = .ok (.putfield 11, 3) := by decide +kernel
theorem dX3_init_11 : decode cX3_init 11 = .ok (.aload_n 0, 1) := by decide +kernel
theorem dX3_init_12 : decode cX3_init 12 = .ok (.iconst 4, 1) := by decide +kernel
theorem dX3_init_13 : decode cX3_init 13 = .ok (.newarray .int, 2) := by decide +kernel
theorem dX3_init_15 : decode cX3_init 15 = .ok (.putfield 15, 3) := by decide +kernel
theorem dX3_init_18 : decode cX3_init 18 = .ok (.aload_n 0, 1) := by decide +kernel
theorem dX3_init_19 : decode cX3_init 19 = .ok (.iconst 4, 1) := by decide +kernel
theorem dX3_init_20 : decode cX3_init 20 = .ok (.newarray .int, 2) := by decide +kernel
theorem dX3_init_22 : decode cX3_init 22 = .ok (.putfield 18, 3) := by decide +kernel
theorem dX3_init_25 : decode cX3_init 25 = .ok (.aload_n 0, 1) := by decide +kernel
theorem dX3_init_26 : decode cX3_init 26 = .ok (.bipush 16, 2) := by decide +kernel
theorem dX3_init_28 : decode cX3_init 28 = .ok (.newarray .int, 2) := by decide +kernel
theorem dX3_init_30 : decode cX3_init 30 = .ok (.putfield 21, 3) := by decide +kernel
theorem dX3_init_33 : decode cX3_init 33 = .ok (.aload_n 0, 1) := by decide +kernel
theorem dX3_init_34 : decode cX3_init 34 = .ok (.sipush 7712, 3) := by decide +kernel
theorem dX3_init_37 : decode cX3_init 37 = .ok (.newarray .long, 2) := by decide +kernel
theorem dX3_init_39 : decode cX3_init 39 = .ok (.putfield 24, 3) := by decide +kernel
theorem dX3_init_42 : decode cX3_init 42 = .ok (.aload_n 0, 1) := by decide +kernel
theorem dX3_init_43 : decode cX3_init 43 = .ok (.sipush 7712, 3) := by decide +kernel
theorem dX3_init_46 : decode cX3_init 46 = .ok (.newarray .long, 2) := by decide +kernel
theorem dX3_init_48 : decode cX3_init 48 = .ok (.putfield 28, 3) := by decide +kernel
theorem dX3_init_51 : decode cX3_init 51 = .ok (.aload_n 0, 1) := by decide +kernel
theorem dX3_init_52 : decode cX3_init 52 = .ok (.sipush 7712, 3) := by decide +kernel
theorem dX3_init_55 : decode cX3_init 55 = .ok (.newarray .int, 2) := by decide +kernel
theorem dX3_init_57 : decode cX3_init 57 = .ok (.putfield 31, 3) := by decide +kernel
theorem dX3_init_60 : decode cX3_init 60 = .ok (.aload_n 0, 1) := by decide +kernel
theorem dX3_init_61 : decode cX3_init 61 = .ok (.sipush 7712, 3) := by decide +kernel
theorem dX3_init_64 : decode cX3_init 64 = .ok (.newarray .int, 2) := by decide +kernel
theorem dX3_init_66 : decode cX3_init 66 = .ok (.putfield 34, 3) := by decide +kernel
theorem dX3_init_69 : decode cX3_init 69 = .ok (.aload_n 0, 1) := by decide +kernel
theorem dX3_init_70 : decode cX3_init 70 = .ok (.iconst 0, 1) := by decide +kernel
theorem dX3_init_71 : decode cX3_init 71 = .ok (.putfield 37, 3) := by decide +kernel
theorem dX3_init_74 : decode cX3_init 74 = .ok (.aload_n 0, 1) := by decide +kernel
theorem dX3_init_75 : decode cX3_init 75 = .ok (.iconst 0, 1) := by decide +kernel
theorem dX3_init_76 : decode cX3_init 76 = .ok (.putfield 41, 3) := by decide +kernel
theorem dX3_init_79 : decode cX3_init 79 = .ok (.aload_n 0, 1) := by decide +kernel
theorem dX3_init_80 : decode cX3_init 80 = .ok (.getfield 24, 3) := by decide +kernel
theorem dX3_init_83 : decode cX3_init 83 = .ok (.ldc2_w 44, 3) := by decide +kernel
theorem dX3_init_86 : decode cX3_init 86 = .ok (.invokestatic 46, 3) := by decide +kernel
theorem dX3_init_89 : decode cX3_init 89 = .ok (.aload_n 0, 1) := by decide +kernel
theorem dX3_init_90 : decode cX3_init 90 = .ok (.getfield 28, 3) := by decide +kernel
theorem dX3_init_93 : decode cX3_init 93 = .ok (.ldc2_w 44, 3) := by decide +kernel
theorem dX3_init_96 : decode cX3_init 96 = .ok (.invokestatic 46, 3) := by decide +kernel
theorem dX3_init_99 : decode cX3_init 99 = .ok (.return_, 1) := by decide +kernel
theorem dX3_leastTime_0 : decode cX3_leastTime 0 = .ok (.aload_n 1, 1) := by decide +kernel
theorem dX3_leastTime_1 : decode cX3_leastTime 1 = .ok (.getfield 52, 3) := by decide +kernel
theorem dX3_leastTime_4 : decode cX3_leastTime 4 = .ok (.iconst 1, 1) := by decide +kernel
theorem dX3_leastTime_5 : decode cX3_leastTime 5 = .ok (.iaload, 1) := by decide +kernel
theorem dX3_leastTime_6 : decode cX3_leastTime 6 = .ok (.aload_n 2, 1) := by decide +kernel
theorem dX3_leastTime_7 : decode cX3_leastTime 7 = .ok (.getfield 57, 3) := by decide +kernel
theorem dX3_leastTime_10 : decode cX3_leastTime 10 = .ok (.iadd, 1) := by decide +kernel
theorem dX3_leastTime_11 : decode cX3_leastTime 11 = .ok (.aload_n 0, 1) := by decide +kernel
theorem dX3_leastTime_12 : decode cX3_leastTime 12 = .ok (.aload_n 1, 1) := by decide +kernel
theorem dX3_leastTime_13 : decode cX3_leastTime 13 = .ok (.aload_n 2, 1) := by decide +kernel
theorem dX3_leastTime_14 : decode cX3_leastTime 14 = .ok (.invokevirtual 62, 3) := by decide +kernel
theorem dX3_leastTime_17 : decode cX3_leastTime 17 = .ok (.iadd, 1) := by decide +kernel
theorem dX3_leastTime_18 : decode cX3_leastTime 18 = .ok (.istore 4, 2) := by decide +kernel
theorem dX3_leastTime_20 : decode cX3_leastTime 20 = .ok (.iload 4, 2) := by decide +kernel
theorem dX3_leastTime_22 : decode cX3_leastTime 22 = .ok (.aload_n 1, 1) := by decide +kernel
theorem dX3_leastTime_23 : decode cX3_leastTime 23 = .ok (.getfield 52, 3) := by decide +kernel
theorem dX3_leastTime_26 : decode cX3_leastTime 26 = .ok (.iconst 2, 1) := by decide +kernel
theorem dX3_leastTime_27 : decode cX3_leastTime 27 = .ok (.iaload, 1) := by decide +kernel
theorem dX3_leastTime_28 : decode cX3_leastTime 28 = .ok (.if_icmp .le 5, 3) := by decide +kernel
theorem dX3_leastTime_31 : decode cX3_leastTime 31 = .ok (.iconst (-1), 1) := by decide +kernel
theorem dX3_leastTime_32 : decode cX3_leastTime 32 = .ok (.ireturn, 1) := by decide +kernel
theorem dX3_leastTime_33 : decode cX3_leastTime 33 = .ok (.aload_n 1, 1) := by decide +kernel
theorem dX3_leastTime_34 : decode cX3_leastTime 34 = .ok (.getfield 52, 3) := by decide +kernel
theorem dX3_leastTime_37 : decode cX3_leastTime 37 = .ok (.iconst 0, 1) := by decide +kernel
theorem dX3_leastTime_38 : decode cX3_leastTime 38 = .ok (.iaload, 1) := by decide +kernel
theorem dX3_leastTime_39 : decode cX3_leastTime 39 = .ok (.istore 5, 2) := by decide +kernel
theorem dX3_leastTime_41 : decode cX3_leastTime 41 = .ok (.aload_n 0, 1) := by decide +kernel
theorem dX3_leastTime_42 : decode cX3_leastTime 42 = .ok (.iconst 0, 1) := by decide +kernel
theorem dX3_leastTime_43 : decode cX3_leastTime 43 = .ok (.iconst 0, 1) := by decide +kernel
theorem dX3_leastTime_44 : decode cX3_leastTime 44 = .ok (.bipush 30, 2) := by decide +kernel
theorem dX3_leastTime_46 : decode cX3_leastTime 46 = .ok (.lconst 0, 1) := by decide +kernel
theorem dX3_leastTime_47 : decode cX3_leastTime 47 = .ok (.invokevirtual 66, 3) := by decide +kernel
theorem dX3_leastTime_50 : decode cX3_leastTime 50 = .ok (.aload_n 0, 1) := by decide +kernel
theorem dX3_leastTime_51 : decode cX3_leastTime 51 = .ok (.invokevirtual 70, 3) := by decide +kernel
theorem dX3_leastTime_54 : decode cX3_leastTime 54 = .ok (.iconst 0, 1) := by decide +kernel
theorem dX3_leastTime_55 : decode cX3_leastTime 55 = .ok (.istore 6, 2) := by decide +kernel
theorem dX3_leastTime_57 : decode cX3_leastTime 57 = .ok (.iload 6, 2) := by decide +kernel
theorem dX3_leastTime_59 : decode cX3_leastTime 59 = .ok (.iload 5, 2) := by decide +kernel
theorem dX3_leastTime_61 : decode cX3_leastTime 61 = .ok (.if_icmp .ge 58, 3) := by decide +kernel
theorem dX3_leastTime_64 : decode cX3_leastTime 64 = .ok (.iload 6, 2) := by decide +kernel
theorem dX3_leastTime_66 : decode cX3_leastTime 66 = .ok (.bipush 40, 2) := by decide +kernel
theorem dX3_leastTime_68 : decode cX3_leastTime 68 = .ok (.if_icmp .ge 51, 3) := by decide +kernel
theorem dX3_leastTime_71 : decode cX3_leastTime 71 = .ok (.iconst 0, 1) := by decide +kernel
theorem dX3_leastTime_72 : decode cX3_leastTime 72 = .ok (.istore 7, 2) := by decide +kernel
theorem dX3_leastTime_74 : decode cX3_leastTime 74 = .ok (.iload 7, 2) := by decide +kernel
theorem dX3_leastTime_76 : decode cX3_leastTime 76 = .ok (.aload_n 0, 1) := by decide +kernel
theorem dX3_leastTime_77 : decode cX3_leastTime 77 = .ok (.getfield 37, 3) := by decide +kernel
theorem dX3_leastTime_80 : decode cX3_leastTime 80 = .ok (.if_icmp .ge 29, 3) := by decide +kernel
theorem dX3_leastTime_83 : decode cX3_leastTime 83 = .ok (.aload_n 0, 1) := by decide +kernel
theorem dX3_leastTime_84 : decode cX3_leastTime 84 = .ok (.aload_n 0, 1) := by decide +kernel
theorem dX3_leastTime_85 : decode cX3_leastTime 85 = .ok (.getfield 31, 3) := by decide +kernel
theorem dX3_leastTime_88 : decode cX3_leastTime 88 = .ok (.iload 7, 2) := by decide +kernel
theorem dX3_leastTime_90 : decode cX3_leastTime 90 = .ok (.iaload, 1) := by decide +kernel
theorem dX3_leastTime_91 : decode cX3_leastTime 91 = .ok (.iload 6, 2) := by decide +kernel
theorem dX3_leastTime_93 : decode cX3_leastTime 93 = .ok (.iload 5, 2) := by decide +kernel
theorem dX3_leastTime_95 : decode cX3_leastTime 95 = .ok (.iconst 1, 1) := by decide +kernel
theorem dX3_leastTime_96 : decode cX3_leastTime 96 = .ok (.isub, 1) := by decide +kernel
theorem dX3_leastTime_97 : decode cX3_leastTime 97 = .ok (.iload 6, 2) := by decide +kernel
theorem dX3_leastTime_99 : decode cX3_leastTime 99 = .ok (.isub, 1) := by decide +kernel
theorem dX3_leastTime_100 : decode cX3_leastTime 100 = .ok (.invokevirtual 73, 3) := by decide +kernel
theorem dX3_leastTime_103 : decode cX3_leastTime 103 = .ok (.iinc 7 1, 3) := by decide +kernel
theorem dX3_leastTime_106 : decode cX3_leastTime 106 = .ok (.goto (-32), 3) := by decide +kernel
theorem dX3_leastTime_109 : decode cX3_leastTime 109 = .ok (.aload_n 0, 1) := by decide +kernel
theorem dX3_leastTime_110 : decode cX3_leastTime 110 = .ok (.invokevirtual 70, 3) := by decide +kernel
theorem dX3_leastTime_113 : decode cX3_leastTime 113 = .ok (.iinc 6 1, 3) := by decide +kernel
theorem dX3_leastTime_116 : decode cX3_leastTime 116 = .ok (.goto (-59), 3) := by decide +kernel
theorem dX3_leastTime_119 : decode cX3_leastTime 119 = .ok (.aload_n 0, 1) := by decide +kernel
theorem dX3_leastTime_120 : decode cX3_leastTime 120 = .ok (.aload_n 1, 1) := by decide +kernel
theorem dX3_leastTime_121 : decode cX3_leastTime 121 = .ok (.aload_n 2, 1) := by decide +kernel
theorem dX3_leastTime_122 : decode cX3_leastTime 122 = .ok (.aload_n 3, 1) := by decide +kernel
theorem dX3_leastTime_123 : decode cX3_leastTime 123 = .ok (.iload 4, 2) := by decide +kernel
theorem dX3_leastTime_125 : decode cX3_leastTime 125 = .ok (.invokevirtual 77, 3) := by decide +kernel
theorem dX3_leastTime_128 : decode cX3_leastTime 128 = .ok (.lstore 6, 2) := by decide +kernel
theorem dX3_leastTime_130 : decode cX3_leastTime 130 = .ok (.lload 6, 2) := by decide +kernel
theorem dX3_leastTime_132 : decode cX3_leastTime 132 = .ok (.ldc2_w 44, 3) := by decide +kernel
theorem dX3_leastTime_135 : decode cX3_leastTime 135 = .ok (.lcmp, 1) := by decide +kernel
theorem dX3_leastTime_136 : decode cX3_leastTime 136 = .ok (.ifCond .ne 5, 3) := by decide +kernel
theorem dX3_leastTime_139 : decode cX3_leastTime 139 = .ok (.iconst (-1), 1) := by decide +kernel
theorem dX3_leastTime_140 : decode cX3_leastTime 140 = .ok (.ireturn, 1) := by decide +kernel
theorem dX3_leastTime_141 : decode cX3_leastTime 141 = .ok (.aload_n 0, 1) := by decide +kernel
theorem dX3_leastTime_142 : decode cX3_leastTime 142 = .ok (.lload 6, 2) := by decide +kernel
theorem dX3_leastTime_144 : decode cX3_leastTime 144 = .ok (.invokevirtual 81, 3) := by decide +kernel
theorem dX3_leastTime_147 : decode cX3_leastTime 147 = .ok (.lload 6, 2) := by decide +kernel
theorem dX3_leastTime_149 : decode cX3_leastTime 149 = .ok (.bipush 32, 2) := by decide +kernel
theorem dX3_leastTime_151 : decode cX3_leastTime 151 = .ok (.lshr, 1) := by decide +kernel
theorem dX3_leastTime_152 : decode cX3_leastTime 152 = .ok (.l2i, 1) := by decide +kernel
theorem dX3_leastTime_153 : decode cX3_leastTime 153 = .ok (.ireturn, 1) := by decide +kernel
theorem dX3_prepare_0 : decode cX3_prepare 0 = .ok (.iconst 0, 1) := by decide +kernel
theorem dX3_prepare_1 : decode cX3_prepare 1 = .ok (.istore_n 3, 1) := by decide +kernel
theorem dX3_prepare_2 : decode cX3_prepare 2 = .ok (.iload_n 3, 1) := by decide +kernel
theorem dX3_prepare_3 : decode cX3_prepare 3 = .ok (.iconst 4, 1) := by decide +kernel
theorem dX3_prepare_4 : decode cX3_prepare 4 = .ok (.if_icmp .ge 46, 3) := by decide +kernel
theorem dX3_prepare_7 : decode cX3_prepare 7 = .ok (.aload_n 0, 1) := by decide +kernel
theorem dX3_prepare_8 : decode cX3_prepare 8 = .ok (.getfield 15, 3) := by decide +kernel
theorem dX3_prepare_11 : decode cX3_prepare 11 = .ok (.iload_n 3, 1) := by decide +kernel
theorem dX3_prepare_12 : decode cX3_prepare 12 = .ok (.aload_n 1, 1) := by decide +kernel
theorem dX3_prepare_13 : decode cX3_prepare 13 = .ok (.getfield 85, 3) := by decide +kernel
theorem dX3_prepare_16 : decode cX3_prepare 16 = .ok (.aload_n 2, 1) := by decide +kernel
theorem dX3_prepare_17 : decode cX3_prepare 17 = .ok (.getfield 86, 3) := by decide +kernel
theorem dX3_prepare_20 : decode cX3_prepare 20 = .ok (.iload_n 3, 1) := by decide +kernel
theorem dX3_prepare_21 : decode cX3_prepare 21 = .ok (.iaload, 1) := by decide +kernel
theorem dX3_prepare_22 : decode cX3_prepare 22 = .ok (.iaload, 1) := by decide +kernel
theorem dX3_prepare_23 : decode cX3_prepare 23 = .ok (.iastore, 1) := by decide +kernel
theorem dX3_prepare_24 : decode cX3_prepare 24 = .ok (.aload_n 0, 1) := by decide +kernel
theorem dX3_prepare_25 : decode cX3_prepare 25 = .ok (.getfield 18, 3) := by decide +kernel
theorem dX3_prepare_28 : decode cX3_prepare 28 = .ok (.iload_n 3, 1) := by decide +kernel
theorem dX3_prepare_29 : decode cX3_prepare 29 = .ok (.bipush 12, 2) := by decide +kernel
theorem dX3_prepare_31 : decode cX3_prepare 31 = .ok (.aload_n 1, 1) := by decide +kernel
theorem dX3_prepare_32 : decode cX3_prepare 32 = .ok (.getfield 89, 3) := by decide +kernel
theorem dX3_prepare_35 : decode cX3_prepare 35 = .ok (.aload_n 2, 1) := by decide +kernel
theorem dX3_prepare_36 : decode cX3_prepare 36 = .ok (.getfield 86, 3) := by decide +kernel
theorem dX3_prepare_39 : decode cX3_prepare 39 = .ok (.iload_n 3, 1) := by decide +kernel
theorem dX3_prepare_40 : decode cX3_prepare 40 = .ok (.iaload, 1) := by decide +kernel
theorem dX3_prepare_41 : decode cX3_prepare 41 = .ok (.iaload, 1) := by decide +kernel
theorem dX3_prepare_42 : decode cX3_prepare 42 = .ok (.imul, 1) := by decide +kernel
theorem dX3_prepare_43 : decode cX3_prepare 43 = .ok (.iastore, 1) := by decide +kernel
theorem dX3_prepare_44 : decode cX3_prepare 44 = .ok (.iinc 3 1, 3) := by decide +kernel
theorem dX3_prepare_47 : decode cX3_prepare 47 = .ok (.goto (-45), 3) := by decide +kernel
theorem dX3_prepare_50 : decode cX3_prepare 50 = .ok (.iconst 0, 1) := by decide +kernel
theorem dX3_prepare_51 : decode cX3_prepare 51 = .ok (.istore_n 3, 1) := by decide +kernel
theorem dX3_prepare_52 : decode cX3_prepare 52 = .ok (.iconst 0, 1) := by decide +kernel
theorem dX3_prepare_53 : decode cX3_prepare 53 = .ok (.istore 4, 2) := by decide +kernel
theorem dX3_prepare_55 : decode cX3_prepare 55 = .ok (.iload 4, 2) := by decide +kernel
theorem dX3_prepare_57 : decode cX3_prepare 57 = .ok (.bipush 15, 2) := by decide +kernel
theorem dX3_prepare_59 : decode cX3_prepare 59 = .ok (.if_icmp .gt 62, 3) := by decide +kernel
theorem dX3_prepare_62 : decode cX3_prepare 62 = .ok (.iconst 0, 1) := by decide +kernel
theorem dX3_prepare_63 : decode cX3_prepare 63 = .ok (.istore_n 3, 1) := by decide +kernel
theorem dX3_prepare_64 : decode cX3_prepare 64 = .ok (.iconst 0, 1) := by decide +kernel
theorem dX3_prepare_65 : decode cX3_prepare 65 = .ok (.istore 5, 2) := by decide +kernel
theorem dX3_prepare_67 : decode cX3_prepare 67 = .ok (.iload 5, 2) := by decide +kernel
theorem dX3_prepare_69 : decode cX3_prepare 69 = .ok (.iconst 4, 1) := by decide +kernel
theorem dX3_prepare_70 : decode cX3_prepare 70 = .ok (.if_icmp .ge 32, 3) := by decide +kernel
theorem dX3_prepare_73 : decode cX3_prepare 73 = .ok (.iload_n 3, 1) := by decide +kernel
theorem dX3_prepare_74 : decode cX3_prepare 74 = .ok (.iload 4, 2) := by decide +kernel
theorem dX3_prepare_76 : decode cX3_prepare 76 = .ok (.iload 5, 2) := by decide +kernel
theorem dX3_prepare_78 : decode cX3_prepare 78 = .ok (.ishr, 1) := by decide +kernel
theorem dX3_prepare_79 : decode cX3_prepare 79 = .ok (.iconst 1, 1) := by decide +kernel
theorem dX3_prepare_80 : decode cX3_prepare 80 = .ok (.iand, 1) := by decide +kernel
theorem dX3_prepare_81 : decode cX3_prepare 81 = .ok (.aload_n 1, 1) := by decide +kernel
theorem dX3_prepare_82 : decode cX3_prepare 82 = .ok (.getfield 92, 3) := by decide +kernel
theorem dX3_prepare_85 : decode cX3_prepare 85 = .ok (.aload_n 2, 1) := by decide +kernel
theorem dX3_prepare_86 : decode cX3_prepare 86 = .ok (.getfield 86, 3) := by decide +kernel
theorem dX3_prepare_89 : decode cX3_prepare 89 = .ok (.iload 5, 2) := by decide +kernel
theorem dX3_prepare_91 : decode cX3_prepare 91 = .ok (.iaload, 1) := by decide +kernel
theorem dX3_prepare_92 : decode cX3_prepare 92 = .ok (.iaload, 1) := by decide +kernel
theorem dX3_prepare_93 : decode cX3_prepare 93 = .ok (.imul, 1) := by decide +kernel
theorem dX3_prepare_94 : decode cX3_prepare 94 = .ok (.iadd, 1) := by decide +kernel
theorem dX3_prepare_95 : decode cX3_prepare 95 = .ok (.istore_n 3, 1) := by decide +kernel
theorem dX3_prepare_96 : decode cX3_prepare 96 = .ok (.iinc 5 1, 3) := by decide +kernel
theorem dX3_prepare_99 : decode cX3_prepare 99 = .ok (.goto (-32), 3) := by decide +kernel
theorem dX3_prepare_102 : decode cX3_prepare 102 = .ok (.aload_n 0, 1) := by decide +kernel
theorem dX3_prepare_103 : decode cX3_prepare 103 = .ok (.getfield 21, 3) := by decide +kernel
theorem dX3_prepare_106 : decode cX3_prepare 106 = .ok (.iload 4, 2) := by decide +kernel
theorem dX3_prepare_108 : decode cX3_prepare 108 = .ok (.iconst 4, 1) := by decide +kernel
theorem dX3_prepare_109 : decode cX3_prepare 109 = .ok (.iload_n 3, 1) := by decide +kernel
theorem dX3_prepare_110 : decode cX3_prepare 110 = .ok (.bipush 100, 2) := by decide +kernel
theorem dX3_prepare_112 : decode cX3_prepare 112 = .ok (.idiv, 1) := by decide +kernel
theorem dX3_prepare_113 : decode cX3_prepare 113 = .ok (.iadd, 1) := by decide +kernel
theorem dX3_prepare_114 : decode cX3_prepare 114 = .ok (.iastore, 1) := by decide +kernel
theorem dX3_prepare_115 : decode cX3_prepare 115 = .ok (.iinc 4 1, 3) := by decide +kernel
theorem dX3_prepare_118 : decode cX3_prepare 118 = .ok (.goto (-63), 3) := by decide +kernel
theorem dX3_prepare_121 : decode cX3_prepare 121 = .ok (.iload_n 3, 1) := by decide +kernel
theorem dX3_prepare_122 : decode cX3_prepare 122 = .ok (.ireturn, 1) := by decide +kernel
theorem dX3_goOn_0 : decode cX3_goOn 0 = .ok (.aload_n 0, 1) := by decide +kernel
theorem dX3_goOn_1 : decode cX3_goOn 1 = .ok (.getfield 24, 3) := by decide +kernel
theorem dX3_goOn_4 : decode cX3_goOn 4 = .ok (.iload_n 1, 1) := by decide +kernel
theorem dX3_goOn_5 : decode cX3_goOn 5 = .ok (.laload, 1) := by decide +kernel
theorem dX3_goOn_6 : decode cX3_goOn 6 = .ok (.lstore 4, 2) := by decide +kernel
theorem dX3_goOn_8 : decode cX3_goOn 8 = .ok (.iload_n 1, 1) := by decide +kernel
theorem dX3_goOn_9 : decode cX3_goOn 9 = .ok (.sipush 241, 3) := by decide +kernel
theorem dX3_goOn_12 : decode cX3_goOn 12 = .ok (.idiv, 1) := by decide +kernel
theorem dX3_goOn_13 : decode cX3_goOn 13 = .ok (.iconst 1, 1) := by decide +kernel
theorem dX3_goOn_14 : decode cX3_goOn 14 = .ok (.ishr, 1) := by decide +kernel
theorem dX3_goOn_15 : decode cX3_goOn 15 = .ok (.istore 6, 2) := by decide +kernel
theorem dX3_goOn_17 : decode cX3_goOn 17 = .ok (.iload_n 1, 1) := by decide +kernel
theorem dX3_goOn_18 : decode cX3_goOn 18 = .ok (.sipush 241, 3) := by decide +kernel
theorem dX3_goOn_21 : decode cX3_goOn 21 = .ok (.idiv, 1) := by decide +kernel
theorem dX3_goOn_22 : decode cX3_goOn 22 = .ok (.iconst 1, 1) := by decide +kernel
theorem dX3_goOn_23 : decode cX3_goOn 23 = .ok (.iand, 1) := by decide +kernel
theorem dX3_goOn_24 : decode cX3_goOn 24 = .ok (.iconst 1, 1) := by decide +kernel
theorem dX3_goOn_25 : decode cX3_goOn 25 = .ok (.if_icmp .ne 7, 3) := by decide +kernel
theorem dX3_goOn_28 : decode cX3_goOn 28 = .ok (.iconst 1, 1) := by decide +kernel
theorem dX3_goOn_29 : decode cX3_goOn 29 = .ok (.goto 4, 3) := by decide +kernel
theorem dX3_goOn_32 : decode cX3_goOn 32 = .ok (.iconst 0, 1) := by decide +kernel
theorem dX3_goOn_33 : decode cX3_goOn 33 = .ok (.istore 7, 2) := by decide +kernel
theorem dX3_goOn_35 : decode cX3_goOn 35 = .ok (.iload_n 1, 1) := by decide +kernel
theorem dX3_goOn_36 : decode cX3_goOn 36 = .ok (.sipush 241, 3) := by decide +kernel
theorem dX3_goOn_39 : decode cX3_goOn 39 = .ok (.irem, 1) := by decide +kernel
theorem dX3_goOn_40 : decode cX3_goOn 40 = .ok (.bipush 10, 2) := by decide +kernel
theorem dX3_goOn_42 : decode cX3_goOn 42 = .ok (.iadd, 1) := by decide +kernel
theorem dX3_goOn_43 : decode cX3_goOn 43 = .ok (.istore 8, 2) := by decide +kernel
theorem dX3_goOn_45 : decode cX3_goOn 45 = .ok (.iload 8, 2) := by decide +kernel
theorem dX3_goOn_47 : decode cX3_goOn 47 = .ok (.aload_n 0, 1) := by decide +kernel
theorem dX3_goOn_48 : decode cX3_goOn 48 = .ok (.iload 6, 2) := by decide +kernel
theorem dX3_goOn_50 : decode cX3_goOn 50 = .ok (.iload 8, 2) := by decide +kernel
theorem dX3_goOn_52 : decode cX3_goOn 52 = .ok (.invokevirtual 95, 3) := by decide +kernel
theorem dX3_goOn_55 : decode cX3_goOn 55 = .ok (.iadd, 1) := by decide +kernel
theorem dX3_goOn_56 : decode cX3_goOn 56 = .ok (.aload_n 0, 1) := by decide +kernel
theorem dX3_goOn_57 : decode cX3_goOn 57 = .ok (.getfield 21, 3) := by decide +kernel
theorem dX3_goOn_60 : decode cX3_goOn 60 = .ok (.iload 6, 2) := by decide +kernel
theorem dX3_goOn_62 : decode cX3_goOn 62 = .ok (.iaload, 1) := by decide +kernel
theorem dX3_goOn_63 : decode cX3_goOn 63 = .ok (.isub, 1) := by decide +kernel
theorem dX3_goOn_64 : decode cX3_goOn 64 = .ok (.invokestatic 99, 3) := by decide +kernel
theorem dX3_goOn_67 : decode cX3_goOn 67 = .ok (.istore 9, 2) := by decide +kernel
theorem dX3_goOn_69 : decode cX3_goOn 69 = .ok (.iconst 4, 1) := by decide +kernel
theorem dX3_goOn_70 : decode cX3_goOn 70 = .ok (.iload 6, 2) := by decide +kernel
theorem dX3_goOn_72 : decode cX3_goOn 72 = .ok (.invokestatic 103, 3) := by decide +kernel
theorem dX3_goOn_75 : decode cX3_goOn 75 = .ok (.isub, 1) := by decide +kernel
theorem dX3_goOn_76 : decode cX3_goOn 76 = .ok (.istore 10, 2) := by decide +kernel
theorem dX3_goOn_78 : decode cX3_goOn 78 = .ok (.iload 10, 2) := by decide +kernel
theorem dX3_goOn_80 : decode cX3_goOn 80 = .ok (.iload_n 3, 1) := by decide +kernel
theorem dX3_goOn_81 : decode cX3_goOn 81 = .ok (.if_icmp .gt 25, 3) := by decide +kernel
theorem dX3_goOn_84 : decode cX3_goOn 84 = .ok (.aload_n 0, 1) := by decide +kernel
theorem dX3_goOn_85 : decode cX3_goOn 85 = .ok (.iload 6, 2) := by decide +kernel
theorem dX3_goOn_87 : decode cX3_goOn 87 = .ok (.iconst 0, 1) := by decide +kernel
theorem dX3_goOn_88 : decode cX3_goOn 88 = .ok (.iload 9, 2) := by decide +kernel
theorem dX3_goOn_90 : decode cX3_goOn 90 = .ok (.lload 4, 2) := by decide +kernel
theorem dX3_goOn_92 : decode cX3_goOn 92 = .ok (.iconst 1, 1) := by decide +kernel
theorem dX3_goOn_93 : decode cX3_goOn 93 = .ok (.iload 9, 2) := by decide +kernel
theorem dX3_goOn_95 : decode cX3_goOn 95 = .ok (.invokestatic 108, 3) := by decide +kernel
theorem dX3_goOn_98 : decode cX3_goOn 98 = .ok (.i2l, 1) := by decide +kernel
theorem dX3_goOn_99 : decode cX3_goOn 99 = .ok (.bipush 32, 2) := by decide +kernel
theorem dX3_goOn_101 : decode cX3_goOn 101 = .ok (.lshl, 1) := by decide +kernel
theorem dX3_goOn_102 : decode cX3_goOn 102 = .ok (.ladd, 1) := by decide +kernel
theorem dX3_goOn_103 : decode cX3_goOn 103 = .ok (.invokevirtual 66, 3) := by decide +kernel
theorem dX3_goOn_106 : decode cX3_goOn 106 = .ok (.iconst 0, 1) := by decide +kernel
theorem dX3_goOn_107 : decode cX3_goOn 107 = .ok (.istore 11, 2) := by decide +kernel
theorem dX3_goOn_109 : decode cX3_goOn 109 = .ok (.iload 11, 2) := by decide +kernel
theorem dX3_goOn_111 : decode cX3_goOn 111 = .ok (.iconst 4, 1) := by decide +kernel
theorem dX3_goOn_112 : decode cX3_goOn 112 = .ok (.if_icmp .ge 103, 3) := by decide +kernel
theorem dX3_goOn_115 : decode cX3_goOn 115 = .ok (.iload 6, 2) := by decide +kernel
theorem dX3_goOn_117 : decode cX3_goOn 117 = .ok (.iload 11, 2) := by decide +kernel
theorem dX3_goOn_119 : decode cX3_goOn 119 = .ok (.ishr, 1) := by decide +kernel
theorem dX3_goOn_120 : decode cX3_goOn 120 = .ok (.iconst 1, 1) := by decide +kernel
theorem dX3_goOn_121 : decode cX3_goOn 121 = .ok (.iand, 1) := by decide +kernel
theorem dX3_goOn_122 : decode cX3_goOn 122 = .ok (.ifCond .ne 87, 3) := by decide +kernel
theorem dX3_goOn_125 : decode cX3_goOn 125 = .ok (.iload 9, 2) := by decide +kernel
theorem dX3_goOn_127 : decode cX3_goOn 127 = .ok (.aload_n 0, 1) := by decide +kernel
theorem dX3_goOn_128 : decode cX3_goOn 128 = .ok (.getfield 18, 3) := by decide +kernel
theorem dX3_goOn_131 : decode cX3_goOn 131 = .ok (.iload 11, 2) := by decide +kernel
theorem dX3_goOn_133 : decode cX3_goOn 133 = .ok (.iaload, 1) := by decide +kernel
theorem dX3_goOn_134 : decode cX3_goOn 134 = .ok (.bipush 20, 2) := by decide +kernel
theorem dX3_goOn_136 : decode cX3_goOn 136 = .ok (.iadd, 1) := by decide +kernel
theorem dX3_goOn_137 : decode cX3_goOn 137 = .ok (.if_icmp .gt 72, 3) := by decide +kernel
theorem dX3_goOn_140 : decode cX3_goOn 140 = .ok (.iload 9, 2) := by decide +kernel
theorem dX3_goOn_142 : decode cX3_goOn 142 = .ok (.iload 7, 2) := by decide +kernel
theorem dX3_goOn_144 : decode cX3_goOn 144 = .ok (.ifCond .eq 8, 3) := by decide +kernel
theorem dX3_goOn_147 : decode cX3_goOn 147 = .ok (.bipush 6, 2) := by decide +kernel
theorem dX3_goOn_149 : decode cX3_goOn 149 = .ok (.goto 4, 3) := by decide +kernel
theorem dX3_goOn_152 : decode cX3_goOn 152 = .ok (.iconst 2, 1) := by decide +kernel
theorem dX3_goOn_153 : decode cX3_goOn 153 = .ok (.isub, 1) := by decide +kernel
theorem dX3_goOn_154 : decode cX3_goOn 154 = .ok (.invokestatic 99, 3) := by decide +kernel
theorem dX3_goOn_157 : decode cX3_goOn 157 = .ok (.istore 12, 2) := by decide +kernel
theorem dX3_goOn_159 : decode cX3_goOn 159 = .ok (.bipush 39, 2) := by decide +kernel
theorem dX3_goOn_161 : decode cX3_goOn 161 = .ok (.iload_n 2, 1) := by decide +kernel
theorem dX3_goOn_162 : decode cX3_goOn 162 = .ok (.isub, 1) := by decide +kernel
theorem dX3_goOn_163 : decode cX3_goOn 163 = .ok (.iconst 4, 1) := by decide +kernel
theorem dX3_goOn_164 : decode cX3_goOn 164 = .ok (.imul, 1) := by decide +kernel
theorem dX3_goOn_165 : decode cX3_goOn 165 = .ok (.iload 11, 2) := by decide +kernel
theorem dX3_goOn_167 : decode cX3_goOn 167 = .ok (.iadd, 1) := by decide +kernel
theorem dX3_goOn_168 : decode cX3_goOn 168 = .ok (.i2l, 1) := by decide +kernel
theorem dX3_goOn_169 : decode cX3_goOn 169 = .ok (.bipush 8, 2) := by decide +kernel
theorem dX3_goOn_171 : decode cX3_goOn 171 = .ok (.iload 10, 2) := by decide +kernel
theorem dX3_goOn_173 : decode cX3_goOn 173 = .ok (.iconst 1, 1) := by decide +kernel
theorem dX3_goOn_174 : decode cX3_goOn 174 = .ok (.isub, 1) := by decide +kernel
theorem dX3_goOn_175 : decode cX3_goOn 175 = .ok (.imul, 1) := by decide +kernel
theorem dX3_goOn_176 : decode cX3_goOn 176 = .ok (.lshl, 1) := by decide +kernel
theorem dX3_goOn_177 : decode cX3_goOn 177 = .ok (.lstore 13, 2) := by decide +kernel
theorem dX3_goOn_179 : decode cX3_goOn 179 = .ok (.aload_n 0, 1) := by decide +kernel
theorem dX3_goOn_180 : decode cX3_goOn 180 = .ok (.iload 6, 2) := by decide +kernel
theorem dX3_goOn_182 : decode cX3_goOn 182 = .ok (.iconst 1, 1) := by decide +kernel
theorem dX3_goOn_183 : decode cX3_goOn 183 = .ok (.iload 11, 2) := by decide +kernel
theorem dX3_goOn_185 : decode cX3_goOn 185 = .ok (.ishl, 1) := by decide +kernel
theorem dX3_goOn_186 : decode cX3_goOn 186 = .ok (.ior, 1) := by decide +kernel
theorem dX3_goOn_187 : decode cX3_goOn 187 = .ok (.iconst 1, 1) := by decide +kernel
theorem dX3_goOn_188 : decode cX3_goOn 188 = .ok (.iload 12, 2) := by decide +kernel
theorem dX3_goOn_190 : decode cX3_goOn 190 = .ok (.lload 4, 2) := by decide +kernel
theorem dX3_goOn_192 : decode cX3_goOn 192 = .ok (.iconst 1, 1) := by decide +kernel
theorem dX3_goOn_193 : decode cX3_goOn 193 = .ok (.iload 12, 2) := by decide +kernel
theorem dX3_goOn_195 : decode cX3_goOn 195 = .ok (.invokestatic 108, 3) := by decide +kernel
theorem dX3_goOn_198 : decode cX3_goOn 198 = .ok (.i2l, 1) := by decide +kernel
theorem dX3_goOn_199 : decode cX3_goOn 199 = .ok (.bipush 32, 2) := by decide +kernel
theorem dX3_goOn_201 : decode cX3_goOn 201 = .ok (.lshl, 1) := by decide +kernel
theorem dX3_goOn_202 : decode cX3_goOn 202 = .ok (.ladd, 1) := by decide +kernel
theorem dX3_goOn_203 : decode cX3_goOn 203 = .ok (.lload 13, 2) := by decide +kernel
theorem dX3_goOn_205 : decode cX3_goOn 205 = .ok (.ladd, 1) := by decide +kernel
theorem dX3_goOn_206 : decode cX3_goOn 206 = .ok (.invokevirtual 66, 3) := by decide +kernel
theorem dX3_goOn_209 : decode cX3_goOn 209 = .ok (.iinc 11 1, 3) := by decide +kernel
theorem dX3_goOn_212 : decode cX3_goOn 212 = .ok (.goto (-103), 3) := by decide +kernel
theorem dX3_goOn_215 : decode cX3_goOn 215 = .ok (.return_, 1) := by decide +kernel
theorem dX3_pushed_0 : decode cX3_pushed 0 = .ok (.iconst 0, 1) := by decide +kernel
theorem dX3_pushed_1 : decode cX3_pushed 1 = .ok (.istore_n 3, 1) := by decide +kernel
theorem dX3_pushed_2 : decode cX3_pushed 2 = .ok (.iconst 0, 1) := by decide +kernel
theorem dX3_pushed_3 : decode cX3_pushed 3 = .ok (.istore 4, 2) := by decide +kernel
theorem dX3_pushed_5 : decode cX3_pushed 5 = .ok (.iload 4, 2) := by decide +kernel
theorem dX3_pushed_7 : decode cX3_pushed 7 = .ok (.iconst 4, 1) := by decide +kernel
theorem dX3_pushed_8 : decode cX3_pushed 8 = .ok (.if_icmp .ge 39, 3) := by decide +kernel
theorem dX3_pushed_11 : decode cX3_pushed 11 = .ok (.iload_n 1, 1) := by decide +kernel
theorem dX3_pushed_12 : decode cX3_pushed 12 = .ok (.iload 4, 2) := by decide +kernel
theorem dX3_pushed_14 : decode cX3_pushed 14 = .ok (.ishr, 1) := by decide +kernel
theorem dX3_pushed_15 : decode cX3_pushed 15 = .ok (.iconst 1, 1) := by decide +kernel
theorem dX3_pushed_16 : decode cX3_pushed 16 = .ok (.iand, 1) := by decide +kernel
theorem dX3_pushed_17 : decode cX3_pushed 17 = .ok (.ifCond .ne 24, 3) := by decide +kernel
theorem dX3_pushed_20 : decode cX3_pushed 20 = .ok (.iload_n 2, 1) := by decide +kernel
theorem dX3_pushed_21 : decode cX3_pushed 21 = .ok (.aload_n 0, 1) := by decide +kernel
theorem dX3_pushed_22 : decode cX3_pushed 22 = .ok (.getfield 18, 3) := by decide +kernel
theorem dX3_pushed_25 : decode cX3_pushed 25 = .ok (.iload 4, 2) := by decide +kernel
theorem dX3_pushed_27 : decode cX3_pushed 27 = .ok (.iaload, 1) := by decide +kernel
theorem dX3_pushed_28 : decode cX3_pushed 28 = .ok (.if_icmp .ge 13, 3) := by decide +kernel
theorem dX3_pushed_31 : decode cX3_pushed 31 = .ok (.iload_n 3, 1) := by decide +kernel
theorem dX3_pushed_32 : decode cX3_pushed 32 = .ok (.aload_n 0, 1) := by decide +kernel
theorem dX3_pushed_33 : decode cX3_pushed 33 = .ok (.getfield 15, 3) := by decide +kernel
theorem dX3_pushed_36 : decode cX3_pushed 36 = .ok (.iload 4, 2) := by decide +kernel
theorem dX3_pushed_38 : decode cX3_pushed 38 = .ok (.iaload, 1) := by decide +kernel
theorem dX3_pushed_39 : decode cX3_pushed 39 = .ok (.iadd, 1) := by decide +kernel
theorem dX3_pushed_40 : decode cX3_pushed 40 = .ok (.istore_n 3, 1) := by decide +kernel
theorem dX3_pushed_41 : decode cX3_pushed 41 = .ok (.iinc 4 1, 3) := by decide +kernel
theorem dX3_pushed_44 : decode cX3_pushed 44 = .ok (.goto (-39), 3) := by decide +kernel
theorem dX3_pushed_47 : decode cX3_pushed 47 = .ok (.iload_n 3, 1) := by decide +kernel
theorem dX3_pushed_48 : decode cX3_pushed 48 = .ok (.ireturn, 1) := by decide +kernel
theorem dX3_reachState_0 : decode cX3_reachState 0 = .ok (.iload_n 1, 1) := by decide +kernel
theorem dX3_reachState_1 : decode cX3_reachState 1 = .ok (.iconst 1, 1) := by decide +kernel
theorem dX3_reachState_2 : decode cX3_reachState 2 = .ok (.ishl, 1) := by decide +kernel
theorem dX3_reachState_3 : decode cX3_reachState 3 = .ok (.iload_n 2, 1) := by decide +kernel
theorem dX3_reachState_4 : decode cX3_reachState 4 = .ok (.ior, 1) := by decide +kernel
theorem dX3_reachState_5 : decode cX3_reachState 5 = .ok (.sipush 241, 3) := by decide +kernel
theorem dX3_reachState_8 : decode cX3_reachState 8 = .ok (.imul, 1) := by decide +kernel
theorem dX3_reachState_9 : decode cX3_reachState 9 = .ok (.iload_n 3, 1) := by decide +kernel
theorem dX3_reachState_10 : decode cX3_reachState 10 = .ok (.iadd, 1) := by decide +kernel
theorem dX3_reachState_11 : decode cX3_reachState 11 = .ok (.bipush 10, 2) := by decide +kernel
theorem dX3_reachState_13 : decode cX3_reachState 13 = .ok (.isub, 1) := by decide +kernel
theorem dX3_reachState_14 : decode cX3_reachState 14 = .ok (.istore 6, 2) := by decide +kernel
theorem dX3_reachState_16 : decode cX3_reachState 16 = .ok (.aload_n 0, 1) := by decide +kernel
theorem dX3_reachState_17 : decode cX3_reachState 17 = .ok (.getfield 28, 3) := by decide +kernel
theorem dX3_reachState_20 : decode cX3_reachState 20 = .ok (.iload 6, 2) := by decide +kernel
theorem dX3_reachState_22 : decode cX3_reachState 22 = .ok (.laload, 1) := by decide +kernel
theorem dX3_reachState_23 : decode cX3_reachState 23 = .ok (.ldc2_w 44, 3) := by decide +kernel
theorem dX3_reachState_26 : decode cX3_reachState 26 = .ok (.lcmp, 1) := by decide +kernel
theorem dX3_reachState_27 : decode cX3_reachState 27 = .ok (.ifCond .ne 34, 3) := by decide +kernel
theorem dX3_reachState_30 : decode cX3_reachState 30 = .ok (.aload_n 0, 1) := by decide +kernel
theorem dX3_reachState_31 : decode cX3_reachState 31 = .ok (.getfield 41, 3) := by decide +kernel
theorem dX3_reachState_34 : decode cX3_reachState 34 = .ok (.sipush 7712, 3) := by decide +kernel
theorem dX3_reachState_37 : decode cX3_reachState 37 = .ok (.if_icmp .ge 24, 3) := by decide +kernel
theorem dX3_reachState_40 : decode cX3_reachState 40 = .ok (.aload_n 0, 1) := by decide +kernel
theorem dX3_reachState_41 : decode cX3_reachState 41 = .ok (.getfield 34, 3) := by decide +kernel
theorem dX3_reachState_44 : decode cX3_reachState 44 = .ok (.aload_n 0, 1) := by decide +kernel
theorem dX3_reachState_45 : decode cX3_reachState 45 = .ok (.getfield 41, 3) := by decide +kernel
theorem dX3_reachState_48 : decode cX3_reachState 48 = .ok (.iload 6, 2) := by decide +kernel
theorem dX3_reachState_50 : decode cX3_reachState 50 = .ok (.iastore, 1) := by decide +kernel
theorem dX3_reachState_51 : decode cX3_reachState 51 = .ok (.aload_n 0, 1) := by decide +kernel
theorem dX3_reachState_52 : decode cX3_reachState 52 = .ok (.dup, 1) := by decide +kernel
theorem dX3_reachState_53 : decode cX3_reachState 53 = .ok (.getfield 41, 3) := by decide +kernel
theorem dX3_reachState_56 : decode cX3_reachState 56 = .ok (.iconst 1, 1) := by decide +kernel
theorem dX3_reachState_57 : decode cX3_reachState 57 = .ok (.iadd, 1) := by decide +kernel
theorem dX3_reachState_58 : decode cX3_reachState 58 = .ok (.putfield 41, 3) := by decide +kernel
theorem dX3_reachState_61 : decode cX3_reachState 61 = .ok (.aload_n 0, 1) := by decide +kernel
theorem dX3_reachState_62 : decode cX3_reachState 62 = .ok (.getfield 28, 3) := by decide +kernel
theorem dX3_reachState_65 : decode cX3_reachState 65 = .ok (.iload 6, 2) := by decide +kernel
theorem dX3_reachState_67 : decode cX3_reachState 67 = .ok (.aload_n 0, 1) := by decide +kernel
theorem dX3_reachState_68 : decode cX3_reachState 68 = .ok (.getfield 28, 3) := by decide +kernel
theorem dX3_reachState_71 : decode cX3_reachState 71 = .ok (.iload 6, 2) := by decide +kernel
theorem dX3_reachState_73 : decode cX3_reachState 73 = .ok (.laload, 1) := by decide +kernel
theorem dX3_reachState_74 : decode cX3_reachState 74 = .ok (.lload 4, 2) := by decide +kernel
theorem dX3_reachState_76 : decode cX3_reachState 76 = .ok (.invokestatic 111, 3) := by decide +kernel
theorem dX3_reachState_79 : decode cX3_reachState 79 = .ok (.lastore, 1) := by decide +kernel
theorem dX3_reachState_80 : decode cX3_reachState 80 = .ok (.return_, 1) := by decide +kernel
theorem dX3_turnOverRows_0 : decode cX3_turnOverRows 0 = .ok (.iconst 0, 1) := by decide +kernel
theorem dX3_turnOverRows_1 : decode cX3_turnOverRows 1 = .ok (.istore_n 1, 1) := by decide +kernel
theorem dX3_turnOverRows_2 : decode cX3_turnOverRows 2 = .ok (.iload_n 1, 1) := by decide +kernel
theorem dX3_turnOverRows_3 : decode cX3_turnOverRows 3 = .ok (.aload_n 0, 1) := by decide +kernel
theorem dX3_turnOverRows_4 : decode cX3_turnOverRows 4 = .ok (.getfield 37, 3) := by decide +kernel
theorem dX3_turnOverRows_7 : decode cX3_turnOverRows 7 = .ok (.if_icmp .ge 23, 3) := by decide +kernel
theorem dX3_turnOverRows_10 : decode cX3_turnOverRows 10 = .ok (.aload_n 0, 1) := by decide +kernel
theorem dX3_turnOverRows_11 : decode cX3_turnOverRows 11 = .ok (.getfield 24, 3) := by decide +kernel
theorem dX3_turnOverRows_14 : decode cX3_turnOverRows 14 = .ok (.aload_n 0, 1) := by decide +kernel
theorem dX3_turnOverRows_15 : decode cX3_turnOverRows 15 = .ok (.getfield 31, 3) := by decide +kernel
theorem dX3_turnOverRows_18 : decode cX3_turnOverRows 18 = .ok (.iload_n 1, 1) := by decide +kernel
theorem dX3_turnOverRows_19 : decode cX3_turnOverRows 19 = .ok (.iaload, 1) := by decide +kernel
theorem dX3_turnOverRows_20 : decode cX3_turnOverRows 20 = .ok (.ldc2_w 44, 3) := by decide +kernel
theorem dX3_turnOverRows_23 : decode cX3_turnOverRows 23 = .ok (.lastore, 1) := by decide +kernel
theorem dX3_turnOverRows_24 : decode cX3_turnOverRows 24 = .ok (.iinc 1 1, 3) := by decide +kernel
theorem dX3_turnOverRows_27 : decode cX3_turnOverRows 27 = .ok (.goto (-25), 3) := by decide +kernel
theorem dX3_turnOverRows_30 : decode cX3_turnOverRows 30 = .ok (.aload_n 0, 1) := by decide +kernel
theorem dX3_turnOverRows_31 : decode cX3_turnOverRows 31 = .ok (.getfield 24, 3) := by decide +kernel
theorem dX3_turnOverRows_34 : decode cX3_turnOverRows 34 = .ok (.astore_n 1, 1) := by decide +kernel
theorem dX3_turnOverRows_35 : decode cX3_turnOverRows 35 = .ok (.aload_n 0, 1) := by decide +kernel
theorem dX3_turnOverRows_36 : decode cX3_turnOverRows 36 = .ok (.getfield 31, 3) := by decide +kernel
theorem dX3_turnOverRows_39 : decode cX3_turnOverRows 39 = .ok (.astore_n 2, 1) := by decide +kernel
theorem dX3_turnOverRows_40 : decode cX3_turnOverRows 40 = .ok (.aload_n 0, 1) := by decide +kernel
theorem dX3_turnOverRows_41 : decode cX3_turnOverRows 41 = .ok (.aload_n 0, 1) := by decide +kernel
theorem dX3_turnOverRows_42 : decode cX3_turnOverRows 42 = .ok (.getfield 28, 3) := by decide +kernel
theorem dX3_turnOverRows_45 : decode cX3_turnOverRows 45 = .ok (.putfield 24, 3) := by decide +kernel
theorem dX3_turnOverRows_48 : decode cX3_turnOverRows 48 = .ok (.aload_n 0, 1) := by decide +kernel
theorem dX3_turnOverRows_49 : decode cX3_turnOverRows 49 = .ok (.aload_n 0, 1) := by decide +kernel
theorem dX3_turnOverRows_50 : decode cX3_turnOverRows 50 = .ok (.getfield 34, 3) := by decide +kernel
theorem dX3_turnOverRows_53 : decode cX3_turnOverRows 53 = .ok (.putfield 31, 3) := by decide +kernel
theorem dX3_turnOverRows_56 : decode cX3_turnOverRows 56 = .ok (.aload_n 0, 1) := by decide +kernel
theorem dX3_turnOverRows_57 : decode cX3_turnOverRows 57 = .ok (.aload_n 0, 1) := by decide +kernel
theorem dX3_turnOverRows_58 : decode cX3_turnOverRows 58 = .ok (.getfield 41, 3) := by decide +kernel
theorem dX3_turnOverRows_61 : decode cX3_turnOverRows 61 = .ok (.putfield 37, 3) := by decide +kernel
theorem dX3_turnOverRows_64 : decode cX3_turnOverRows 64 = .ok (.aload_n 0, 1) := by decide +kernel
theorem dX3_turnOverRows_65 : decode cX3_turnOverRows 65 = .ok (.aload_n 1, 1) := by decide +kernel
theorem dX3_turnOverRows_66 : decode cX3_turnOverRows 66 = .ok (.putfield 28, 3) := by decide +kernel
theorem dX3_turnOverRows_69 : decode cX3_turnOverRows 69 = .ok (.aload_n 0, 1) := by decide +kernel
theorem dX3_turnOverRows_70 : decode cX3_turnOverRows 70 = .ok (.aload_n 2, 1) := by decide +kernel
theorem dX3_turnOverRows_71 : decode cX3_turnOverRows 71 = .ok (.putfield 34, 3) := by decide +kernel
theorem dX3_turnOverRows_74 : decode cX3_turnOverRows 74 = .ok (.aload_n 0, 1) := by decide +kernel
theorem dX3_turnOverRows_75 : decode cX3_turnOverRows 75 = .ok (.iconst 0, 1) := by decide +kernel
theorem dX3_turnOverRows_76 : decode cX3_turnOverRows 76 = .ok (.putfield 41, 3) := by decide +kernel
theorem dX3_turnOverRows_79 : decode cX3_turnOverRows 79 = .ok (.return_, 1) := by decide +kernel
theorem dX3_leastWayDown_0 : decode cX3_leastWayDown 0 = .ok (.ldc2_w 44, 3) := by decide +kernel
theorem dX3_leastWayDown_3 : decode cX3_leastWayDown 3 = .ok (.lstore 5, 2) := by decide +kernel
theorem dX3_leastWayDown_5 : decode cX3_leastWayDown 5 = .ok (.iconst 0, 1) := by decide +kernel
theorem dX3_leastWayDown_6 : decode cX3_leastWayDown 6 = .ok (.istore 7, 2) := by decide +kernel
theorem dX3_leastWayDown_8 : decode cX3_leastWayDown 8 = .ok (.iload 7, 2) := by decide +kernel
theorem dX3_leastWayDown_10 : decode cX3_leastWayDown 10 = .ok (.aload_n 0, 1) := by decide +kernel
theorem dX3_leastWayDown_11 : decode cX3_leastWayDown 11 = .ok (.getfield 37, 3) := by decide +kernel
theorem dX3_leastWayDown_14 : decode cX3_leastWayDown 14 = .ok (.if_icmp .ge 83, 3) := by decide +kernel
theorem dX3_leastWayDown_17 : decode cX3_leastWayDown 17 = .ok (.aload_n 0, 1) := by decide +kernel
theorem dX3_leastWayDown_18 : decode cX3_leastWayDown 18 = .ok (.getfield 31, 3) := by decide +kernel
theorem dX3_leastWayDown_21 : decode cX3_leastWayDown 21 = .ok (.iload 7, 2) := by decide +kernel
theorem dX3_leastWayDown_23 : decode cX3_leastWayDown 23 = .ok (.iaload, 1) := by decide +kernel
theorem dX3_leastWayDown_24 : decode cX3_leastWayDown 24 = .ok (.sipush 241, 3) := by decide +kernel
theorem dX3_leastWayDown_27 : decode cX3_leastWayDown 27 = .ok (.idiv, 1) := by decide +kernel
theorem dX3_leastWayDown_28 : decode cX3_leastWayDown 28 = .ok (.iconst 1, 1) := by decide +kernel
theorem dX3_leastWayDown_29 : decode cX3_leastWayDown 29 = .ok (.ishr, 1) := by decide +kernel
theorem dX3_leastWayDown_30 : decode cX3_leastWayDown 30 = .ok (.bipush 15, 2) := by decide +kernel
theorem dX3_leastWayDown_32 : decode cX3_leastWayDown 32 = .ok (.if_icmp .ne 59, 3) := by decide +kernel
theorem dX3_leastWayDown_35 : decode cX3_leastWayDown 35 = .ok (.aload_n 3, 1) := by decide +kernel
theorem dX3_leastWayDown_36 : decode cX3_leastWayDown 36 = .ok (.aload_n 1, 1) := by decide +kernel
theorem dX3_leastWayDown_37 : decode cX3_leastWayDown 37 = .ok (.aload_n 2, 1) := by decide +kernel
theorem dX3_leastWayDown_38 : decode cX3_leastWayDown 38 = .ok (.aload_n 0, 1) := by decide +kernel
theorem dX3_leastWayDown_39 : decode cX3_leastWayDown 39 = .ok (.getfield 31, 3) := by decide +kernel
theorem dX3_leastWayDown_42 : decode cX3_leastWayDown 42 = .ok (.iload 7, 2) := by decide +kernel
theorem dX3_leastWayDown_44 : decode cX3_leastWayDown 44 = .ok (.iaload, 1) := by decide +kernel
theorem dX3_leastWayDown_45 : decode cX3_leastWayDown 45 = .ok (.sipush 241, 3) := by decide +kernel
theorem dX3_leastWayDown_48 : decode cX3_leastWayDown 48 = .ok (.irem, 1) := by decide +kernel
theorem dX3_leastWayDown_49 : decode cX3_leastWayDown 49 = .ok (.bipush 10, 2) := by decide +kernel
theorem dX3_leastWayDown_51 : decode cX3_leastWayDown 51 = .ok (.iadd, 1) := by decide +kernel
theorem dX3_leastWayDown_52 : decode cX3_leastWayDown 52 = .ok (.iload 4, 2) := by decide +kernel
theorem dX3_leastWayDown_54 : decode cX3_leastWayDown 54 = .ok (.invokevirtual 117, 3) := by decide +kernel
theorem dX3_leastWayDown_57 : decode cX3_leastWayDown 57 = .ok (.istore 8, 2) := by decide +kernel
theorem dX3_leastWayDown_59 : decode cX3_leastWayDown 59 = .ok (.iload 8, 2) := by decide +kernel
theorem dX3_leastWayDown_61 : decode cX3_leastWayDown 61 = .ok (.iconst (-1), 1) := by decide +kernel
theorem dX3_leastWayDown_62 : decode cX3_leastWayDown 62 = .ok (.if_icmp .eq 29, 3) := by decide +kernel
theorem dX3_leastWayDown_65 : decode cX3_leastWayDown 65 = .ok (.lload 5, 2) := by decide +kernel
theorem dX3_leastWayDown_67 : decode cX3_leastWayDown 67 = .ok (.aload_n 0, 1) := by decide +kernel
theorem dX3_leastWayDown_68 : decode cX3_leastWayDown 68 = .ok (.getfield 24, 3) := by decide +kernel
theorem dX3_leastWayDown_71 : decode cX3_leastWayDown 71 = .ok (.aload_n 0, 1) := by decide +kernel
theorem dX3_leastWayDown_72 : decode cX3_leastWayDown 72 = .ok (.getfield 31, 3) := by decide +kernel
theorem dX3_leastWayDown_75 : decode cX3_leastWayDown 75 = .ok (.iload 7, 2) := by decide +kernel
theorem dX3_leastWayDown_77 : decode cX3_leastWayDown 77 = .ok (.iaload, 1) := by decide +kernel
theorem dX3_leastWayDown_78 : decode cX3_leastWayDown 78 = .ok (.laload, 1) := by decide +kernel
theorem dX3_leastWayDown_79 : decode cX3_leastWayDown 79 = .ok (.iload 8, 2) := by decide +kernel
theorem dX3_leastWayDown_81 : decode cX3_leastWayDown 81 = .ok (.i2l, 1) := by decide +kernel
theorem dX3_leastWayDown_82 : decode cX3_leastWayDown 82 = .ok (.bipush 32, 2) := by decide +kernel
theorem dX3_leastWayDown_84 : decode cX3_leastWayDown 84 = .ok (.lshl, 1) := by decide +kernel
theorem dX3_leastWayDown_85 : decode cX3_leastWayDown 85 = .ok (.ladd, 1) := by decide +kernel
theorem dX3_leastWayDown_86 : decode cX3_leastWayDown 86 = .ok (.invokestatic 111, 3) := by decide +kernel
theorem dX3_leastWayDown_89 : decode cX3_leastWayDown 89 = .ok (.lstore 5, 2) := by decide +kernel
theorem dX3_leastWayDown_91 : decode cX3_leastWayDown 91 = .ok (.iinc 7 1, 3) := by decide +kernel
theorem dX3_leastWayDown_94 : decode cX3_leastWayDown 94 = .ok (.goto (-86), 3) := by decide +kernel
theorem dX3_leastWayDown_97 : decode cX3_leastWayDown 97 = .ok (.lload 5, 2) := by decide +kernel
theorem dX3_leastWayDown_99 : decode cX3_leastWayDown 99 = .ok (.lreturn, 1) := by decide +kernel
theorem dX3_tellYards_0 : decode cX3_tellYards 0 = .ok (.iconst 0, 1) := by decide +kernel
theorem dX3_tellYards_1 : decode cX3_tellYards 1 = .ok (.istore_n 3, 1) := by decide +kernel
theorem dX3_tellYards_2 : decode cX3_tellYards 2 = .ok (.iload_n 3, 1) := by decide +kernel
theorem dX3_tellYards_3 : decode cX3_tellYards 3 = .ok (.iconst 4, 1) := by decide +kernel
theorem dX3_tellYards_4 : decode cX3_tellYards 4 = .ok (.if_icmp .ge 38, 3) := by decide +kernel
theorem dX3_tellYards_7 : decode cX3_tellYards 7 = .ok (.lload_n 1, 1) := by decide +kernel
theorem dX3_tellYards_8 : decode cX3_tellYards 8 = .ok (.bipush 8, 2) := by decide +kernel
theorem dX3_tellYards_10 : decode cX3_tellYards 10 = .ok (.iload_n 3, 1) := by decide +kernel
theorem dX3_tellYards_11 : decode cX3_tellYards 11 = .ok (.imul, 1) := by decide +kernel
theorem dX3_tellYards_12 : decode cX3_tellYards 12 = .ok (.lshr, 1) := by decide +kernel
theorem dX3_tellYards_13 : decode cX3_tellYards 13 = .ok (.l2i, 1) := by decide +kernel
theorem dX3_tellYards_14 : decode cX3_tellYards 14 = .ok (.sipush 255, 3) := by decide +kernel
theorem dX3_tellYards_17 : decode cX3_tellYards 17 = .ok (.iand, 1) := by decide +kernel
theorem dX3_tellYards_18 : decode cX3_tellYards 18 = .ok (.istore 4, 2) := by decide +kernel
theorem dX3_tellYards_20 : decode cX3_tellYards 20 = .ok (.aload_n 0, 1) := by decide +kernel
theorem dX3_tellYards_21 : decode cX3_tellYards 21 = .ok (.getfield 11, 3) := by decide +kernel
theorem dX3_tellYards_24 : decode cX3_tellYards 24 = .ok (.iload 4, 2) := by decide +kernel
theorem dX3_tellYards_26 : decode cX3_tellYards 26 = .ok (.iconst 4, 1) := by decide +kernel
theorem dX3_tellYards_27 : decode cX3_tellYards 27 = .ok (.irem, 1) := by decide +kernel
theorem dX3_tellYards_28 : decode cX3_tellYards 28 = .ok (.bipush 39, 2) := by decide +kernel
theorem dX3_tellYards_30 : decode cX3_tellYards 30 = .ok (.iload 4, 2) := by decide +kernel
theorem dX3_tellYards_32 : decode cX3_tellYards 32 = .ok (.iconst 4, 1) := by decide +kernel
theorem dX3_tellYards_33 : decode cX3_tellYards 33 = .ok (.idiv, 1) := by decide +kernel
theorem dX3_tellYards_34 : decode cX3_tellYards 34 = .ok (.isub, 1) := by decide +kernel
theorem dX3_tellYards_35 : decode cX3_tellYards 35 = .ok (.iastore, 1) := by decide +kernel
theorem dX3_tellYards_36 : decode cX3_tellYards 36 = .ok (.iinc 3 1, 3) := by decide +kernel
theorem dX3_tellYards_39 : decode cX3_tellYards 39 = .ok (.goto (-37), 3) := by decide +kernel
theorem dX3_tellYards_42 : decode cX3_tellYards 42 = .ok (.return_, 1) := by decide +kernel
theorem dX4_init_0 : decode cX4_init 0 = .ok (.aload_n 0, 1) := by decide +kernel
theorem dX4_init_1 : decode cX4_init 1 = .ok (.invokespecial 5, 3) := by decide +kernel
theorem dX4_init_4 : decode cX4_init 4 = .ok (.aload_n 0, 1) := by decide +kernel
theorem dX4_init_5 : decode cX4_init 5 = .ok (.bipush 12, 2) := by decide +kernel
theorem dX4_init_7 : decode cX4_init 7 = .ok (.newarray .int, 2) := by decide +kernel
theorem dX4_init_9 : decode cX4_init 9 = .ok (.putfield 11, 3) := by decide +kernel
theorem dX4_init_12 : decode cX4_init 12 = .ok (.aload_n 0, 1) := by decide +kernel
theorem dX4_init_13 : decode cX4_init 13 = .ok (.sipush 2410, 3) := by decide +kernel
theorem dX4_init_16 : decode cX4_init 16 = .ok (.newarray .long, 2) := by decide +kernel
theorem dX4_init_18 : decode cX4_init 18 = .ok (.putfield 15, 3) := by decide +kernel
theorem dX4_init_21 : decode cX4_init 21 = .ok (.aload_n 0, 1) := by decide +kernel
theorem dX4_init_22 : decode cX4_init 22 = .ok (.sipush 2410, 3) := by decide +kernel
theorem dX4_init_25 : decode cX4_init 25 = .ok (.newarray .long, 2) := by decide +kernel
theorem dX4_init_27 : decode cX4_init 27 = .ok (.putfield 19, 3) := by decide +kernel
theorem dX4_init_30 : decode cX4_init 30 = .ok (.return_, 1) := by decide +kernel
theorem dX4_leastTime_0 : decode cX4_leastTime 0 = .ok (.aload_n 0, 1) := by decide +kernel
theorem dX4_leastTime_1 : decode cX4_leastTime 1 = .ok (.getfield 15, 3) := by decide +kernel
theorem dX4_leastTime_4 : decode cX4_leastTime 4 = .ok (.ldc2_w 22, 3) := by decide +kernel
theorem dX4_leastTime_7 : decode cX4_leastTime 7 = .ok (.invokestatic 24, 3) := by decide +kernel
theorem dX4_leastTime_10 : decode cX4_leastTime 10 = .ok (.aload_n 0, 1) := by decide +kernel
theorem dX4_leastTime_11 : decode cX4_leastTime 11 = .ok (.getfield 15, 3) := by decide +kernel
theorem dX4_leastTime_14 : decode cX4_leastTime 14 = .ok (.iload_n 3, 1) := by decide +kernel
theorem dX4_leastTime_15 : decode cX4_leastTime 15 = .ok (.bipush 10, 2) := by decide +kernel
theorem dX4_leastTime_17 : decode cX4_leastTime 17 = .ok (.isub, 1) := by decide +kernel
theorem dX4_leastTime_18 : decode cX4_leastTime 18 = .ok (.bipush 10, 2) := by decide +kernel
theorem dX4_leastTime_20 : decode cX4_leastTime 20 = .ok (.imul, 1) := by decide +kernel
theorem dX4_leastTime_21 : decode cX4_leastTime 21 = .ok (.lconst 0, 1) := by decide +kernel
theorem dX4_leastTime_22 : decode cX4_leastTime 22 = .ok (.lastore, 1) := by decide +kernel
theorem dX4_leastTime_23 : decode cX4_leastTime 23 = .ok (.ldc2_w 30, 3) := by decide +kernel
theorem dX4_leastTime_26 : decode cX4_leastTime 26 = .ok (.lstore 5, 2) := by decide +kernel
theorem dX4_leastTime_28 : decode cX4_leastTime 28 = .ok (.iconst 0, 1) := by decide +kernel
theorem dX4_leastTime_29 : decode cX4_leastTime 29 = .ok (.istore 7, 2) := by decide +kernel
theorem dX4_leastTime_31 : decode cX4_leastTime 31 = .ok (.iload 7, 2) := by decide +kernel
theorem dX4_leastTime_33 : decode cX4_leastTime 33 = .ok (.aload_n 1, 1) := by decide +kernel
theorem dX4_leastTime_34 : decode cX4_leastTime 34 = .ok (.getfield 32, 3) := by decide +kernel
theorem dX4_leastTime_37 : decode cX4_leastTime 37 = .ok (.if_icmp .ge 102, 3) := by decide +kernel
theorem dX4_leastTime_40 : decode cX4_leastTime 40 = .ok (.aload_n 0, 1) := by decide +kernel
theorem dX4_leastTime_41 : decode cX4_leastTime 41 = .ok (.getfield 19, 3) := by decide +kernel
theorem dX4_leastTime_44 : decode cX4_leastTime 44 = .ok (.ldc2_w 22, 3) := by decide +kernel
theorem dX4_leastTime_47 : decode cX4_leastTime 47 = .ok (.invokestatic 24, 3) := by decide +kernel
theorem dX4_leastTime_50 : decode cX4_leastTime 50 = .ok (.aload_n 1, 1) := by decide +kernel
theorem dX4_leastTime_51 : decode cX4_leastTime 51 = .ok (.iload 7, 2) := by decide +kernel
theorem dX4_leastTime_53 : decode cX4_leastTime 53 = .ok (.aload_n 2, 1) := by decide +kernel
theorem dX4_leastTime_54 : decode cX4_leastTime 54 = .ok (.iload 4, 2) := by decide +kernel
theorem dX4_leastTime_56 : decode cX4_leastTime 56 = .ok (.invokevirtual 38, 3) := by decide +kernel
theorem dX4_leastTime_59 : decode cX4_leastTime 59 = .ok (.istore 8, 2) := by decide +kernel
theorem dX4_leastTime_61 : decode cX4_leastTime 61 = .ok (.iconst 0, 1) := by decide +kernel
theorem dX4_leastTime_62 : decode cX4_leastTime 62 = .ok (.istore 9, 2) := by decide +kernel
theorem dX4_leastTime_64 : decode cX4_leastTime 64 = .ok (.iload 9, 2) := by decide +kernel
theorem dX4_leastTime_66 : decode cX4_leastTime 66 = .ok (.sipush 2410, 3) := by decide +kernel
theorem dX4_leastTime_69 : decode cX4_leastTime 69 = .ok (.if_icmp .ge 36, 3) := by decide +kernel
theorem dX4_leastTime_72 : decode cX4_leastTime 72 = .ok (.aload_n 0, 1) := by decide +kernel
theorem dX4_leastTime_73 : decode cX4_leastTime 73 = .ok (.getfield 15, 3) := by decide +kernel
theorem dX4_leastTime_76 : decode cX4_leastTime 76 = .ok (.iload 9, 2) := by decide +kernel
theorem dX4_leastTime_78 : decode cX4_leastTime 78 = .ok (.laload, 1) := by decide +kernel
theorem dX4_leastTime_79 : decode cX4_leastTime 79 = .ok (.ldc2_w 22, 3) := by decide +kernel
theorem dX4_leastTime_82 : decode cX4_leastTime 82 = .ok (.lcmp, 1) := by decide +kernel
theorem dX4_leastTime_83 : decode cX4_leastTime 83 = .ok (.ifCond .eq 16, 3) := by decide +kernel
theorem dX4_leastTime_86 : decode cX4_leastTime 86 = .ok (.aload_n 0, 1) := by decide +kernel
theorem dX4_leastTime_87 : decode cX4_leastTime 87 = .ok (.aload_n 1, 1) := by decide +kernel
theorem dX4_leastTime_88 : decode cX4_leastTime 88 = .ok (.iload 7, 2) := by decide +kernel
theorem dX4_leastTime_90 : decode cX4_leastTime 90 = .ok (.iload 9, 2) := by decide +kernel
theorem dX4_leastTime_92 : decode cX4_leastTime 92 = .ok (.iload 8, 2) := by decide +kernel
theorem dX4_leastTime_94 : decode cX4_leastTime 94 = .ok (.lload 5, 2) := by decide +kernel
theorem dX4_leastTime_96 : decode cX4_leastTime 96 = .ok (.invokevirtual 42, 3) := by decide +kernel
theorem dX4_leastTime_99 : decode cX4_leastTime 99 = .ok (.iinc 9 1, 3) := by decide +kernel
theorem dX4_leastTime_102 : decode cX4_leastTime 102 = .ok (.goto (-38), 3) := by decide +kernel
theorem dX4_leastTime_105 : decode cX4_leastTime 105 = .ok (.aload_n 0, 1) := by decide +kernel
theorem dX4_leastTime_106 : decode cX4_leastTime 106 = .ok (.getfield 15, 3) := by decide +kernel
theorem dX4_leastTime_109 : decode cX4_leastTime 109 = .ok (.astore 9, 2) := by decide +kernel
theorem dX4_leastTime_111 : decode cX4_leastTime 111 = .ok (.aload_n 0, 1) := by decide +kernel
theorem dX4_leastTime_112 : decode cX4_leastTime 112 = .ok (.aload_n 0, 1) := by decide +kernel
theorem dX4_leastTime_113 : decode cX4_leastTime 113 = .ok (.getfield 19, 3) := by decide +kernel
theorem dX4_leastTime_116 : decode cX4_leastTime 116 = .ok (.putfield 15, 3) := by decide +kernel
theorem dX4_leastTime_119 : decode cX4_leastTime 119 = .ok (.aload_n 0, 1) := by decide +kernel
theorem dX4_leastTime_120 : decode cX4_leastTime 120 = .ok (.aload 9, 2) := by decide +kernel
theorem dX4_leastTime_122 : decode cX4_leastTime 122 = .ok (.putfield 19, 3) := by decide +kernel
theorem dX4_leastTime_125 : decode cX4_leastTime 125 = .ok (.lload 5, 2) := by decide +kernel
theorem dX4_leastTime_127 : decode cX4_leastTime 127 = .ok (.ldc2_w 46, 3) := by decide +kernel
theorem dX4_leastTime_130 : decode cX4_leastTime 130 = .ok (.ldiv, 1) := by decide +kernel
theorem dX4_leastTime_131 : decode cX4_leastTime 131 = .ok (.lstore 5, 2) := by decide +kernel
theorem dX4_leastTime_133 : decode cX4_leastTime 133 = .ok (.iinc 7 1, 3) := by decide +kernel
theorem dX4_leastTime_136 : decode cX4_leastTime 136 = .ok (.goto (-105), 3) := by decide +kernel
theorem dX4_leastTime_139 : decode cX4_leastTime 139 = .ok (.ldc2_w 22, 3) := by decide +kernel
theorem dX4_leastTime_142 : decode cX4_leastTime 142 = .ok (.lstore 7, 2) := by decide +kernel
theorem dX4_leastTime_144 : decode cX4_leastTime 144 = .ok (.iconst 0, 1) := by decide +kernel
theorem dX4_leastTime_145 : decode cX4_leastTime 145 = .ok (.istore 9, 2) := by decide +kernel
theorem dX4_leastTime_147 : decode cX4_leastTime 147 = .ok (.iload 9, 2) := by decide +kernel
theorem dX4_leastTime_149 : decode cX4_leastTime 149 = .ok (.sipush 2410, 3) := by decide +kernel
theorem dX4_leastTime_152 : decode cX4_leastTime 152 = .ok (.if_icmp .ge 23, 3) := by decide +kernel
theorem dX4_leastTime_155 : decode cX4_leastTime 155 = .ok (.lload 7, 2) := by decide +kernel
theorem dX4_leastTime_157 : decode cX4_leastTime 157 = .ok (.aload_n 0, 1) := by decide +kernel
theorem dX4_leastTime_158 : decode cX4_leastTime 158 = .ok (.getfield 15, 3) := by decide +kernel
theorem dX4_leastTime_161 : decode cX4_leastTime 161 = .ok (.iload 9, 2) := by decide +kernel
theorem dX4_leastTime_163 : decode cX4_leastTime 163 = .ok (.laload, 1) := by decide +kernel
theorem dX4_leastTime_164 : decode cX4_leastTime 164 = .ok (.invokestatic 48, 3) := by decide +kernel
theorem dX4_leastTime_167 : decode cX4_leastTime 167 = .ok (.lstore 7, 2) := by decide +kernel
theorem dX4_leastTime_169 : decode cX4_leastTime 169 = .ok (.iinc 9 1, 3) := by decide +kernel
theorem dX4_leastTime_172 : decode cX4_leastTime 172 = .ok (.goto (-25), 3) := by decide +kernel
theorem dX4_leastTime_175 : decode cX4_leastTime 175 = .ok (.lload 7, 2) := by decide +kernel
theorem dX4_leastTime_177 : decode cX4_leastTime 177 = .ok (.ldc2_w 22, 3) := by decide +kernel
theorem dX4_leastTime_180 : decode cX4_leastTime 180 = .ok (.lcmp, 1) := by decide +kernel
theorem dX4_leastTime_181 : decode cX4_leastTime 181 = .ok (.ifCond .ne 5, 3) := by decide +kernel
theorem dX4_leastTime_184 : decode cX4_leastTime 184 = .ok (.iconst (-1), 1) := by decide +kernel
theorem dX4_leastTime_185 : decode cX4_leastTime 185 = .ok (.ireturn, 1) := by decide +kernel
theorem dX4_leastTime_186 : decode cX4_leastTime 186 = .ok (.aload_n 0, 1) := by decide +kernel
theorem dX4_leastTime_187 : decode cX4_leastTime 187 = .ok (.lload 7, 2) := by decide +kernel
theorem dX4_leastTime_189 : decode cX4_leastTime 189 = .ok (.ldc2_w 54, 3) := by decide +kernel
theorem dX4_leastTime_192 : decode cX4_leastTime 192 = .ok (.lrem, 1) := by decide +kernel
theorem dX4_leastTime_193 : decode cX4_leastTime 193 = .ok (.invokevirtual 56, 3) := by decide +kernel
theorem dX4_leastTime_196 : decode cX4_leastTime 196 = .ok (.lload 7, 2) := by decide +kernel
theorem dX4_leastTime_198 : decode cX4_leastTime 198 = .ok (.ldc2_w 54, 3) := by decide +kernel
theorem dX4_leastTime_201 : decode cX4_leastTime 201 = .ok (.ldiv, 1) := by decide +kernel
theorem dX4_leastTime_202 : decode cX4_leastTime 202 = .ok (.l2i, 1) := by decide +kernel
theorem dX4_leastTime_203 : decode cX4_leastTime 203 = .ok (.ireturn, 1) := by decide +kernel
theorem dX4_goOn_0 : decode cX4_goOn 0 = .ok (.iload_n 3, 1) := by decide +kernel
theorem dX4_goOn_1 : decode cX4_goOn 1 = .ok (.bipush 10, 2) := by decide +kernel
theorem dX4_goOn_3 : decode cX4_goOn 3 = .ok (.idiv, 1) := by decide +kernel
theorem dX4_goOn_4 : decode cX4_goOn 4 = .ok (.bipush 10, 2) := by decide +kernel
theorem dX4_goOn_6 : decode cX4_goOn 6 = .ok (.iadd, 1) := by decide +kernel
theorem dX4_goOn_7 : decode cX4_goOn 7 = .ok (.iload 4, 2) := by decide +kernel
theorem dX4_goOn_9 : decode cX4_goOn 9 = .ok (.iadd, 1) := by decide +kernel
theorem dX4_goOn_10 : decode cX4_goOn 10 = .ok (.istore 7, 2) := by decide +kernel
theorem dX4_goOn_12 : decode cX4_goOn 12 = .ok (.iload_n 3, 1) := by decide +kernel
theorem dX4_goOn_13 : decode cX4_goOn 13 = .ok (.bipush 10, 2) := by decide +kernel
theorem dX4_goOn_15 : decode cX4_goOn 15 = .ok (.irem, 1) := by decide +kernel
theorem dX4_goOn_16 : decode cX4_goOn 16 = .ok (.istore 8, 2) := by decide +kernel
theorem dX4_goOn_18 : decode cX4_goOn 18 = .ok (.iconst 0, 1) := by decide +kernel
theorem dX4_goOn_19 : decode cX4_goOn 19 = .ok (.istore 9, 2) := by decide +kernel
theorem dX4_goOn_21 : decode cX4_goOn 21 = .ok (.iload 9, 2) := by decide +kernel
theorem dX4_goOn_23 : decode cX4_goOn 23 = .ok (.bipush 10, 2) := by decide +kernel
theorem dX4_goOn_25 : decode cX4_goOn 25 = .ok (.if_icmp .ge 102, 3) := by decide +kernel
theorem dX4_goOn_28 : decode cX4_goOn 28 = .ok (.iload 7, 2) := by decide +kernel
theorem dX4_goOn_30 : decode cX4_goOn 30 = .ok (.aload_n 1, 1) := by decide +kernel
theorem dX4_goOn_31 : decode cX4_goOn 31 = .ok (.iload_n 2, 1) := by decide +kernel
theorem dX4_goOn_32 : decode cX4_goOn 32 = .ok (.iload 9, 2) := by decide +kernel
theorem dX4_goOn_34 : decode cX4_goOn 34 = .ok (.iload 8, 2) := by decide +kernel
theorem dX4_goOn_36 : decode cX4_goOn 36 = .ok (.invokevirtual 60, 3) := by decide +kernel
theorem dX4_goOn_39 : decode cX4_goOn 39 = .ok (.isub, 1) := by decide +kernel
theorem dX4_goOn_40 : decode cX4_goOn 40 = .ok (.invokestatic 64, 3) := by decide +kernel
theorem dX4_goOn_43 : decode cX4_goOn 43 = .ok (.istore 10, 2) := by decide +kernel
theorem dX4_goOn_45 : decode cX4_goOn 45 = .ok (.aload_n 1, 1) := by decide +kernel
theorem dX4_goOn_46 : decode cX4_goOn 46 = .ok (.iload_n 2, 1) := by decide +kernel
theorem dX4_goOn_47 : decode cX4_goOn 47 = .ok (.iload 10, 2) := by decide +kernel
theorem dX4_goOn_49 : decode cX4_goOn 49 = .ok (.iload 9, 2) := by decide +kernel
theorem dX4_goOn_51 : decode cX4_goOn 51 = .ok (.invokevirtual 68, 3) := by decide +kernel
theorem dX4_goOn_54 : decode cX4_goOn 54 = .ok (.ifCond .ne 67, 3) := by decide +kernel
theorem dX4_goOn_57 : decode cX4_goOn 57 = .ok (.iload 10, 2) := by decide +kernel
theorem dX4_goOn_59 : decode cX4_goOn 59 = .ok (.bipush 10, 2) := by decide +kernel
theorem dX4_goOn_61 : decode cX4_goOn 61 = .ok (.isub, 1) := by decide +kernel
theorem dX4_goOn_62 : decode cX4_goOn 62 = .ok (.bipush 10, 2) := by decide +kernel
theorem dX4_goOn_64 : decode cX4_goOn 64 = .ok (.imul, 1) := by decide +kernel
theorem dX4_goOn_65 : decode cX4_goOn 65 = .ok (.iload 9, 2) := by decide +kernel
theorem dX4_goOn_67 : decode cX4_goOn 67 = .ok (.iadd, 1) := by decide +kernel
theorem dX4_goOn_68 : decode cX4_goOn 68 = .ok (.istore 11, 2) := by decide +kernel
theorem dX4_goOn_70 : decode cX4_goOn 70 = .ok (.aload_n 0, 1) := by decide +kernel
theorem dX4_goOn_71 : decode cX4_goOn 71 = .ok (.getfield 15, 3) := by decide +kernel
theorem dX4_goOn_74 : decode cX4_goOn 74 = .ok (.iload_n 3, 1) := by decide +kernel
theorem dX4_goOn_75 : decode cX4_goOn 75 = .ok (.laload, 1) := by decide +kernel
theorem dX4_goOn_76 : decode cX4_goOn 76 = .ok (.aload_n 1, 1) := by decide +kernel
theorem dX4_goOn_77 : decode cX4_goOn 77 = .ok (.getfield 72, 3) := by decide +kernel
theorem dX4_goOn_80 : decode cX4_goOn 80 = .ok (.iload_n 2, 1) := by decide +kernel
theorem dX4_goOn_81 : decode cX4_goOn 81 = .ok (.iaload, 1) := by decide +kernel
theorem dX4_goOn_82 : decode cX4_goOn 82 = .ok (.iload 10, 2) := by decide +kernel
theorem dX4_goOn_84 : decode cX4_goOn 84 = .ok (.invokestatic 75, 3) := by decide +kernel
theorem dX4_goOn_87 : decode cX4_goOn 87 = .ok (.i2l, 1) := by decide +kernel
theorem dX4_goOn_88 : decode cX4_goOn 88 = .ok (.ldc2_w 54, 3) := by decide +kernel
theorem dX4_goOn_91 : decode cX4_goOn 91 = .ok (.lmul, 1) := by decide +kernel
theorem dX4_goOn_92 : decode cX4_goOn 92 = .ok (.ladd, 1) := by decide +kernel
theorem dX4_goOn_93 : decode cX4_goOn 93 = .ok (.iload 9, 2) := by decide +kernel
theorem dX4_goOn_95 : decode cX4_goOn 95 = .ok (.i2l, 1) := by decide +kernel
theorem dX4_goOn_96 : decode cX4_goOn 96 = .ok (.lload 5, 2) := by decide +kernel
theorem dX4_goOn_98 : decode cX4_goOn 98 = .ok (.lmul, 1) := by decide +kernel
theorem dX4_goOn_99 : decode cX4_goOn 99 = .ok (.ladd, 1) := by decide +kernel
theorem dX4_goOn_100 : decode cX4_goOn 100 = .ok (.lstore 12, 2) := by decide +kernel
theorem dX4_goOn_102 : decode cX4_goOn 102 = .ok (.aload_n 0, 1) := by decide +kernel
theorem dX4_goOn_103 : decode cX4_goOn 103 = .ok (.getfield 19, 3) := by decide +kernel
theorem dX4_goOn_106 : decode cX4_goOn 106 = .ok (.iload 11, 2) := by decide +kernel
theorem dX4_goOn_108 : decode cX4_goOn 108 = .ok (.aload_n 0, 1) := by decide +kernel
theorem dX4_goOn_109 : decode cX4_goOn 109 = .ok (.getfield 19, 3) := by decide +kernel
theorem dX4_goOn_112 : decode cX4_goOn 112 = .ok (.iload 11, 2) := by decide +kernel
theorem dX4_goOn_114 : decode cX4_goOn 114 = .ok (.laload, 1) := by decide +kernel
theorem dX4_goOn_115 : decode cX4_goOn 115 = .ok (.lload 12, 2) := by decide +kernel
theorem dX4_goOn_117 : decode cX4_goOn 117 = .ok (.invokestatic 48, 3) := by decide +kernel
theorem dX4_goOn_120 : decode cX4_goOn 120 = .ok (.lastore, 1) := by decide +kernel
theorem dX4_goOn_121 : decode cX4_goOn 121 = .ok (.iinc 9 1, 3) := by decide +kernel
theorem dX4_goOn_124 : decode cX4_goOn 124 = .ok (.goto (-103), 3) := by decide +kernel
theorem dX4_goOn_127 : decode cX4_goOn 127 = .ok (.return_, 1) := by decide +kernel
theorem dX4_tellHeights_0 : decode cX4_tellHeights 0 = .ok (.lload_n 1, 1) := by decide +kernel
theorem dX4_tellHeights_1 : decode cX4_tellHeights 1 = .ok (.lstore_n 3, 1) := by decide +kernel
theorem dX4_tellHeights_2 : decode cX4_tellHeights 2 = .ok (.bipush 11, 2) := by decide +kernel
theorem dX4_tellHeights_4 : decode cX4_tellHeights 4 = .ok (.istore 5, 2) := by decide +kernel
theorem dX4_tellHeights_6 : decode cX4_tellHeights 6 = .ok (.iload 5, 2) := by decide +kernel
theorem dX4_tellHeights_8 : decode cX4_tellHeights 8 = .ok (.ifCond .lt 28, 3) := by decide +kernel
theorem dX4_tellHeights_11 : decode cX4_tellHeights 11 = .ok (.aload_n 0, 1) := by decide +kernel
theorem dX4_tellHeights_12 : decode cX4_tellHeights 12 = .ok (.getfield 11, 3) := by decide +kernel
theorem dX4_tellHeights_15 : decode cX4_tellHeights 15 = .ok (.iload 5, 2) := by decide +kernel
theorem dX4_tellHeights_17 : decode cX4_tellHeights 17 = .ok (.lload_n 3, 1) := by decide +kernel
theorem dX4_tellHeights_18 : decode cX4_tellHeights 18 = .ok (.ldc2_w 46, 3) := by decide +kernel
theorem dX4_tellHeights_21 : decode cX4_tellHeights 21 = .ok (.lrem, 1) := by decide +kernel
theorem dX4_tellHeights_22 : decode cX4_tellHeights 22 = .ok (.l2i, 1) := by decide +kernel
theorem dX4_tellHeights_23 : decode cX4_tellHeights 23 = .ok (.iastore, 1) := by decide +kernel
theorem dX4_tellHeights_24 : decode cX4_tellHeights 24 = .ok (.lload_n 3, 1) := by decide +kernel
theorem dX4_tellHeights_25 : decode cX4_tellHeights 25 = .ok (.ldc2_w 46, 3) := by decide +kernel
theorem dX4_tellHeights_28 : decode cX4_tellHeights 28 = .ok (.ldiv, 1) := by decide +kernel
theorem dX4_tellHeights_29 : decode cX4_tellHeights 29 = .ok (.lstore_n 3, 1) := by decide +kernel
theorem dX4_tellHeights_30 : decode cX4_tellHeights 30 = .ok (.iinc 5 (-1), 3) := by decide +kernel
theorem dX4_tellHeights_33 : decode cX4_tellHeights 33 = .ok (.goto (-27), 3) := by decide +kernel
theorem dX4_tellHeights_36 : decode cX4_tellHeights 36 = .ok (.return_, 1) := by decide +kernel
theorem dX5_init_0 : decode cX5_init 0 = .ok (.aload_n 0, 1) := by decide +kernel
theorem dX5_init_1 : decode cX5_init 1 = .ok (.invokespecial 3, 3) := by decide +kernel
theorem dX5_init_4 : decode cX5_init 4 = .ok (.aload_n 0, 1) := by decide +kernel
theorem dX5_init_5 : decode cX5_init 5 = .ok (.iconst 4, 1) := by decide +kernel
theorem dX5_init_6 : decode cX5_init 6 = .ok (.newarray .int, 2) := by decide +kernel
theorem dX5_init_8 : decode cX5_init 8 = .ok (.putfield 9, 3) := by decide +kernel
theorem dX5_init_11 : decode cX5_init 11 = .ok (.aload_n 0, 1) := by decide +kernel
theorem dX5_init_12 : decode cX5_init 12 = .ok (.iconst 4, 1) := by decide +kernel
theorem dX5_init_13 : decode cX5_init 13 = .ok (.newarray .int, 2) := by decide +kernel
theorem dX5_init_15 : decode cX5_init 15 = .ok (.putfield 15, 3) := by decide +kernel
theorem dX5_init_18 : decode cX5_init 18 = .ok (.aload_n 0, 1) := by decide +kernel
theorem dX5_init_19 : decode cX5_init 19 = .ok (.bipush 12, 2) := by decide +kernel
theorem dX5_init_21 : decode cX5_init 21 = .ok (.newarray .int, 2) := by decide +kernel
theorem dX5_init_23 : decode cX5_init 23 = .ok (.putfield 18, 3) := by decide +kernel
theorem dX5_init_26 : decode cX5_init 26 = .ok (.aload_n 0, 1) := by decide +kernel
theorem dX5_init_27 : decode cX5_init 27 = .ok (.iconst 0, 1) := by decide +kernel
theorem dX5_init_28 : decode cX5_init 28 = .ok (.putfield 21, 3) := by decide +kernel
theorem dX5_init_31 : decode cX5_init 31 = .ok (.aload_n 0, 1) := by decide +kernel
theorem dX5_init_32 : decode cX5_init 32 = .ok (.iconst 0, 1) := by decide +kernel
theorem dX5_init_33 : decode cX5_init 33 = .ok (.putfield 25, 3) := by decide +kernel
theorem dX5_init_36 : decode cX5_init 36 = .ok (.aload_n 0, 1) := by decide +kernel
theorem dX5_init_37 : decode cX5_init 37 = .ok (.iconst (-1), 1) := by decide +kernel
theorem dX5_init_38 : decode cX5_init 38 = .ok (.putfield 29, 3) := by decide +kernel
theorem dX5_init_41 : decode cX5_init 41 = .ok (.aload_n 0, 1) := by decide +kernel
theorem dX5_init_42 : decode cX5_init 42 = .ok (.iconst 1, 1) := by decide +kernel
theorem dX5_init_43 : decode cX5_init 43 = .ok (.putfield 32, 3) := by decide +kernel
theorem dX5_init_46 : decode cX5_init 46 = .ok (.aload_n 0, 1) := by decide +kernel
theorem dX5_init_47 : decode cX5_init 47 = .ok (.iconst 0, 1) := by decide +kernel
theorem dX5_init_48 : decode cX5_init 48 = .ok (.putfield 35, 3) := by decide +kernel
theorem dX5_init_51 : decode cX5_init 51 = .ok (.aload_n 0, 1) := by decide +kernel
theorem dX5_init_52 : decode cX5_init 52 = .ok (.iconst 0, 1) := by decide +kernel
theorem dX5_init_53 : decode cX5_init 53 = .ok (.putfield 38, 3) := by decide +kernel
theorem dX5_init_56 : decode cX5_init 56 = .ok (.aload_n 0, 1) := by decide +kernel
theorem dX5_init_57 : decode cX5_init 57 = .ok (.iconst 0, 1) := by decide +kernel
theorem dX5_init_58 : decode cX5_init 58 = .ok (.putfield 41, 3) := by decide +kernel
theorem dX5_init_61 : decode cX5_init 61 = .ok (.aload_n 0, 1) := by decide +kernel
theorem dX5_init_62 : decode cX5_init 62 = .ok (.iconst 0, 1) := by decide +kernel
theorem dX5_init_63 : decode cX5_init 63 = .ok (.putfield 44, 3) := by decide +kernel
theorem dX5_init_66 : decode cX5_init 66 = .ok (.return_, 1) := by decide +kernel
theorem dX5_clear_0 : decode cX5_clear 0 = .ok (.aload_n 0, 1) := by decide +kernel
theorem dX5_clear_1 : decode cX5_clear 1 = .ok (.iconst 0, 1) := by decide +kernel
theorem dX5_clear_2 : decode cX5_clear 2 = .ok (.putfield 21, 3) := by decide +kernel
theorem dX5_clear_5 : decode cX5_clear 5 = .ok (.aload_n 0, 1) := by decide +kernel
theorem dX5_clear_6 : decode cX5_clear 6 = .ok (.iconst 0, 1) := by decide +kernel
theorem dX5_clear_7 : decode cX5_clear 7 = .ok (.putfield 25, 3) := by decide +kernel
theorem dX5_clear_10 : decode cX5_clear 10 = .ok (.aload_n 0, 1) := by decide +kernel
theorem dX5_clear_11 : decode cX5_clear 11 = .ok (.aload_n 1, 1) := by decide +kernel
theorem dX5_clear_12 : decode cX5_clear 12 = .ok (.getfield 47, 3) := by decide +kernel
theorem dX5_clear_15 : decode cX5_clear 15 = .ok (.ifCond .le 7, 3) := by decide +kernel
theorem dX5_clear_18 : decode cX5_clear 18 = .ok (.iconst 0, 1) := by decide +kernel
theorem dX5_clear_19 : decode cX5_clear 19 = .ok (.goto 4, 3) := by decide +kernel
theorem dX5_clear_22 : decode cX5_clear 22 = .ok (.iconst (-1), 1) := by decide +kernel
theorem dX5_clear_23 : decode cX5_clear 23 = .ok (.putfield 29, 3) := by decide +kernel
theorem dX5_clear_26 : decode cX5_clear 26 = .ok (.aload_n 0, 1) := by decide +kernel
theorem dX5_clear_27 : decode cX5_clear 27 = .ok (.iconst 1, 1) := by decide +kernel
theorem dX5_clear_28 : decode cX5_clear 28 = .ok (.putfield 32, 3) := by decide +kernel
theorem dX5_clear_31 : decode cX5_clear 31 = .ok (.aload_n 0, 1) := by decide +kernel
theorem dX5_clear_32 : decode cX5_clear 32 = .ok (.getfield 9, 3) := by decide +kernel
theorem dX5_clear_35 : decode cX5_clear 35 = .ok (.iconst 0, 1) := by decide +kernel
theorem dX5_clear_36 : decode cX5_clear 36 = .ok (.invokestatic 52, 3) := by decide +kernel
theorem dX5_clear_39 : decode cX5_clear 39 = .ok (.aload_n 0, 1) := by decide +kernel
theorem dX5_clear_40 : decode cX5_clear 40 = .ok (.getfield 15, 3) := by decide +kernel
theorem dX5_clear_43 : decode cX5_clear 43 = .ok (.aload_n 1, 1) := by decide +kernel
theorem dX5_clear_44 : decode cX5_clear 44 = .ok (.getfield 58, 3) := by decide +kernel
theorem dX5_clear_47 : decode cX5_clear 47 = .ok (.iconst 0, 1) := by decide +kernel
theorem dX5_clear_48 : decode cX5_clear 48 = .ok (.iaload, 1) := by decide +kernel
theorem dX5_clear_49 : decode cX5_clear 49 = .ok (.iconst 1, 1) := by decide +kernel
theorem dX5_clear_50 : decode cX5_clear 50 = .ok (.isub, 1) := by decide +kernel
theorem dX5_clear_51 : decode cX5_clear 51 = .ok (.invokestatic 52, 3) := by decide +kernel
theorem dX5_clear_54 : decode cX5_clear 54 = .ok (.aload_n 1, 1) := by decide +kernel
theorem dX5_clear_55 : decode cX5_clear 55 = .ok (.getfield 61, 3) := by decide +kernel
theorem dX5_clear_58 : decode cX5_clear 58 = .ok (.iconst 0, 1) := by decide +kernel
theorem dX5_clear_59 : decode cX5_clear 59 = .ok (.aload_n 0, 1) := by decide +kernel
theorem dX5_clear_60 : decode cX5_clear 60 = .ok (.getfield 18, 3) := by decide +kernel
theorem dX5_clear_63 : decode cX5_clear 63 = .ok (.iconst 0, 1) := by decide +kernel
theorem dX5_clear_64 : decode cX5_clear 64 = .ok (.bipush 12, 2) := by decide +kernel
theorem dX5_clear_66 : decode cX5_clear 66 = .ok (.invokestatic 64, 3) := by decide +kernel
theorem dX5_clear_69 : decode cX5_clear 69 = .ok (.return_, 1) := by decide +kernel
theorem dX5_copyFrom_0 : decode cX5_copyFrom 0 = .ok (.aload_n 0, 1) := by decide +kernel
theorem dX5_copyFrom_1 : decode cX5_copyFrom 1 = .ok (.aload_n 1, 1) := by decide +kernel
theorem dX5_copyFrom_2 : decode cX5_copyFrom 2 = .ok (.getfield 21, 3) := by decide +kernel
theorem dX5_copyFrom_5 : decode cX5_copyFrom 5 = .ok (.putfield 21, 3) := by decide +kernel
theorem dX5_copyFrom_8 : decode cX5_copyFrom 8 = .ok (.aload_n 0, 1) := by decide +kernel
theorem dX5_copyFrom_9 : decode cX5_copyFrom 9 = .ok (.aload_n 1, 1) := by decide +kernel
theorem dX5_copyFrom_10 : decode cX5_copyFrom 10 = .ok (.getfield 25, 3) := by decide +kernel
theorem dX5_copyFrom_13 : decode cX5_copyFrom 13 = .ok (.putfield 25, 3) := by decide +kernel
theorem dX5_copyFrom_16 : decode cX5_copyFrom 16 = .ok (.aload_n 0, 1) := by decide +kernel
theorem dX5_copyFrom_17 : decode cX5_copyFrom 17 = .ok (.aload_n 1, 1) := by decide +kernel
theorem dX5_copyFrom_18 : decode cX5_copyFrom 18 = .ok (.getfield 29, 3) := by decide +kernel
theorem dX5_copyFrom_21 : decode cX5_copyFrom 21 = .ok (.putfield 29, 3) := by decide +kernel
theorem dX5_copyFrom_24 : decode cX5_copyFrom 24 = .ok (.aload_n 0, 1) := by decide +kernel
theorem dX5_copyFrom_25 : decode cX5_copyFrom 25 = .ok (.aload_n 1, 1) := by decide +kernel
theorem dX5_copyFrom_26 : decode cX5_copyFrom 26 = .ok (.getfield 32, 3) := by decide +kernel
theorem dX5_copyFrom_29 : decode cX5_copyFrom 29 = .ok (.putfield 32, 3) := by decide +kernel
theorem dX5_copyFrom_32 : decode cX5_copyFrom 32 = .ok (.aload_n 1, 1) := by decide +kernel
theorem dX5_copyFrom_33 : decode cX5_copyFrom 33 = .ok (.getfield 9, 3) := by decide +kernel
theorem dX5_copyFrom_36 : decode cX5_copyFrom 36 = .ok (.iconst 0, 1) := by decide +kernel
theorem dX5_copyFrom_37 : decode cX5_copyFrom 37 = .ok (.aload_n 0, 1) := by decide +kernel
theorem dX5_copyFrom_38 : decode cX5_copyFrom 38 = .ok (.getfield 9, 3) := by decide +kernel
theorem dX5_copyFrom_41 : decode cX5_copyFrom 41 = .ok (.iconst 0, 1) := by decide +kernel
theorem dX5_copyFrom_42 : decode cX5_copyFrom 42 = .ok (.iconst 4, 1) := by decide +kernel
theorem dX5_copyFrom_43 : decode cX5_copyFrom 43 = .ok (.invokestatic 64, 3) := by decide +kernel
theorem dX5_copyFrom_46 : decode cX5_copyFrom 46 = .ok (.aload_n 1, 1) := by decide +kernel
theorem dX5_copyFrom_47 : decode cX5_copyFrom 47 = .ok (.getfield 15, 3) := by decide +kernel
theorem dX5_copyFrom_50 : decode cX5_copyFrom 50 = .ok (.iconst 0, 1) := by decide +kernel
theorem dX5_copyFrom_51 : decode cX5_copyFrom 51 = .ok (.aload_n 0, 1) := by decide +kernel
theorem dX5_copyFrom_52 : decode cX5_copyFrom 52 = .ok (.getfield 15, 3) := by decide +kernel
theorem dX5_copyFrom_55 : decode cX5_copyFrom 55 = .ok (.iconst 0, 1) := by decide +kernel
theorem dX5_copyFrom_56 : decode cX5_copyFrom 56 = .ok (.iconst 4, 1) := by decide +kernel
theorem dX5_copyFrom_57 : decode cX5_copyFrom 57 = .ok (.invokestatic 64, 3) := by decide +kernel
theorem dX5_copyFrom_60 : decode cX5_copyFrom 60 = .ok (.aload_n 1, 1) := by decide +kernel
theorem dX5_copyFrom_61 : decode cX5_copyFrom 61 = .ok (.getfield 18, 3) := by decide +kernel
theorem dX5_copyFrom_64 : decode cX5_copyFrom 64 = .ok (.iconst 0, 1) := by decide +kernel
theorem dX5_copyFrom_65 : decode cX5_copyFrom 65 = .ok (.aload_n 0, 1) := by decide +kernel
theorem dX5_copyFrom_66 : decode cX5_copyFrom 66 = .ok (.getfield 18, 3) := by decide +kernel
theorem dX5_copyFrom_69 : decode cX5_copyFrom 69 = .ok (.iconst 0, 1) := by decide +kernel
theorem dX5_copyFrom_70 : decode cX5_copyFrom 70 = .ok (.bipush 12, 2) := by decide +kernel
theorem dX5_copyFrom_72 : decode cX5_copyFrom 72 = .ok (.invokestatic 64, 3) := by decide +kernel
theorem dX5_copyFrom_75 : decode cX5_copyFrom 75 = .ok (.return_, 1) := by decide +kernel
theorem dX5_putCrew_0 : decode cX5_putCrew 0 = .ok (.aload_n 0, 1) := by decide +kernel
theorem dX5_putCrew_1 : decode cX5_putCrew 1 = .ok (.iconst 1, 1) := by decide +kernel
theorem dX5_putCrew_2 : decode cX5_putCrew 2 = .ok (.putfield 21, 3) := by decide +kernel
theorem dX5_putCrew_5 : decode cX5_putCrew 5 = .ok (.aload_n 0, 1) := by decide +kernel
theorem dX5_putCrew_6 : decode cX5_putCrew 6 = .ok (.getfield 9, 3) := by decide +kernel
theorem dX5_putCrew_9 : decode cX5_putCrew 9 = .ok (.iconst 0, 1) := by decide +kernel
theorem dX5_putCrew_10 : decode cX5_putCrew 10 = .ok (.iload_n 1, 1) := by decide +kernel
theorem dX5_putCrew_11 : decode cX5_putCrew 11 = .ok (.iastore, 1) := by decide +kernel
theorem dX5_putCrew_12 : decode cX5_putCrew 12 = .ok (.aload_n 0, 1) := by decide +kernel
theorem dX5_putCrew_13 : decode cX5_putCrew 13 = .ok (.getfield 9, 3) := by decide +kernel
theorem dX5_putCrew_16 : decode cX5_putCrew 16 = .ok (.iconst 1, 1) := by decide +kernel
theorem dX5_putCrew_17 : decode cX5_putCrew 17 = .ok (.iload_n 2, 1) := by decide +kernel
theorem dX5_putCrew_18 : decode cX5_putCrew 18 = .ok (.iastore, 1) := by decide +kernel
theorem dX5_putCrew_19 : decode cX5_putCrew 19 = .ok (.aload_n 0, 1) := by decide +kernel
theorem dX5_putCrew_20 : decode cX5_putCrew 20 = .ok (.getfield 9, 3) := by decide +kernel
theorem dX5_putCrew_23 : decode cX5_putCrew 23 = .ok (.iconst 2, 1) := by decide +kernel
theorem dX5_putCrew_24 : decode cX5_putCrew 24 = .ok (.iload_n 3, 1) := by decide +kernel
theorem dX5_putCrew_25 : decode cX5_putCrew 25 = .ok (.iastore, 1) := by decide +kernel
theorem dX5_putCrew_26 : decode cX5_putCrew 26 = .ok (.aload_n 0, 1) := by decide +kernel
theorem dX5_putCrew_27 : decode cX5_putCrew 27 = .ok (.getfield 9, 3) := by decide +kernel
theorem dX5_putCrew_30 : decode cX5_putCrew 30 = .ok (.iconst 3, 1) := by decide +kernel
theorem dX5_putCrew_31 : decode cX5_putCrew 31 = .ok (.iload 4, 2) := by decide +kernel
theorem dX5_putCrew_33 : decode cX5_putCrew 33 = .ok (.iastore, 1) := by decide +kernel
theorem dX5_putCrew_34 : decode cX5_putCrew 34 = .ok (.return_, 1) := by decide +kernel
theorem dX5_placeOf_0 : decode cX5_placeOf 0 = .ok (.aload_n 0, 1) := by decide +kernel
theorem dX5_placeOf_1 : decode cX5_placeOf 1 = .ok (.getfield 21, 3) := by decide +kernel
theorem dX5_placeOf_4 : decode cX5_placeOf 4 = .ok (.ifCond .eq 12, 3) := by decide +kernel
theorem dX5_placeOf_7 : decode cX5_placeOf 7 = .ok (.aload_n 0, 1) := by decide +kernel
theorem dX5_placeOf_8 : decode cX5_placeOf 8 = .ok (.iload_n 1, 1) := by decide +kernel
theorem dX5_placeOf_9 : decode cX5_placeOf 9 = .ok (.iconst 4, 1) := by decide +kernel
theorem dX5_placeOf_10 : decode cX5_placeOf 10 = .ok (.invokevirtual 70, 3) := by decide +kernel
theorem dX5_placeOf_13 : decode cX5_placeOf 13 = .ok (.goto 4, 3) := by decide +kernel
theorem dX5_placeOf_16 : decode cX5_placeOf 16 = .ok (.iconst (-1), 1) := by decide +kernel
theorem dX5_placeOf_17 : decode cX5_placeOf 17 = .ok (.ireturn, 1) := by decide +kernel
theorem dX5_placeAmong_0 : decode cX5_placeAmong 0 = .ok (.iconst 0, 1) := by decide +kernel
theorem dX5_placeAmong_1 : decode cX5_placeAmong 1 = .ok (.istore_n 3, 1) := by decide +kernel
theorem dX5_placeAmong_2 : decode cX5_placeAmong 2 = .ok (.iload_n 3, 1) := by decide +kernel
theorem dX5_placeAmong_3 : decode cX5_placeAmong 3 = .ok (.iload_n 2, 1) := by decide +kernel
theorem dX5_placeAmong_4 : decode cX5_placeAmong 4 = .ok (.if_icmp .ge 26, 3) := by decide +kernel
theorem dX5_placeAmong_7 : decode cX5_placeAmong 7 = .ok (.iload_n 3, 1) := by decide +kernel
theorem dX5_placeAmong_8 : decode cX5_placeAmong 8 = .ok (.iconst 4, 1) := by decide +kernel
theorem dX5_placeAmong_9 : decode cX5_placeAmong 9 = .ok (.if_icmp .ge 21, 3) := by decide +kernel
theorem dX5_placeAmong_12 : decode cX5_placeAmong 12 = .ok (.aload_n 0, 1) := by decide +kernel
theorem dX5_placeAmong_13 : decode cX5_placeAmong 13 = .ok (.getfield 9, 3) := by decide +kernel
theorem dX5_placeAmong_16 : decode cX5_placeAmong 16 = .ok (.iload_n 3, 1) := by decide +kernel
theorem dX5_placeAmong_17 : decode cX5_placeAmong 17 = .ok (.iaload, 1) := by decide +kernel
theorem dX5_placeAmong_18 : decode cX5_placeAmong 18 = .ok (.iload_n 1, 1) := by decide +kernel
theorem dX5_placeAmong_19 : decode cX5_placeAmong 19 = .ok (.if_icmp .ne 5, 3) := by decide +kernel
theorem dX5_placeAmong_22 : decode cX5_placeAmong 22 = .ok (.iload_n 3, 1) := by decide +kernel
theorem dX5_placeAmong_23 : decode cX5_placeAmong 23 = .ok (.ireturn, 1) := by decide +kernel
theorem dX5_placeAmong_24 : decode cX5_placeAmong 24 = .ok (.iinc 3 1, 3) := by decide +kernel
theorem dX5_placeAmong_27 : decode cX5_placeAmong 27 = .ok (.goto (-25), 3) := by decide +kernel
theorem dX5_placeAmong_30 : decode cX5_placeAmong 30 = .ok (.iconst (-1), 1) := by decide +kernel
theorem dX5_placeAmong_31 : decode cX5_placeAmong 31 = .ok (.ireturn, 1) := by decide +kernel
theorem dX5_readFrom_0 : decode cX5_readFrom 0 = .ok (.aload_n 0, 1) := by decide +kernel
theorem dX5_readFrom_1 : decode cX5_readFrom 1 = .ok (.aload_n 2, 1) := by decide +kernel
theorem dX5_readFrom_2 : decode cX5_readFrom 2 = .ok (.invokevirtual 74, 3) := by decide +kernel
theorem dX5_readFrom_5 : decode cX5_readFrom 5 = .ok (.aload_n 0, 1) := by decide +kernel
theorem dX5_readFrom_6 : decode cX5_readFrom 6 = .ok (.iconst 0, 1) := by decide +kernel
theorem dX5_readFrom_7 : decode cX5_readFrom 7 = .ok (.putfield 38, 3) := by decide +kernel
theorem dX5_readFrom_10 : decode cX5_readFrom 10 = .ok (.aload_n 0, 1) := by decide +kernel
theorem dX5_readFrom_11 : decode cX5_readFrom 11 = .ok (.iconst 0, 1) := by decide +kernel
theorem dX5_readFrom_12 : decode cX5_readFrom 12 = .ok (.putfield 41, 3) := by decide +kernel
theorem dX5_readFrom_15 : decode cX5_readFrom 15 = .ok (.aload_n 0, 1) := by decide +kernel
theorem dX5_readFrom_16 : decode cX5_readFrom 16 = .ok (.iconst 0, 1) := by decide +kernel
theorem dX5_readFrom_17 : decode cX5_readFrom 17 = .ok (.putfield 44, 3) := by decide +kernel
theorem dX5_readFrom_20 : decode cX5_readFrom 20 = .ok (.aload_n 0, 1) := by decide +kernel
theorem dX5_readFrom_21 : decode cX5_readFrom 21 = .ok (.iconst 0, 1) := by decide +kernel
theorem dX5_readFrom_22 : decode cX5_readFrom 22 = .ok (.putfield 35, 3) := by decide +kernel
theorem dX5_readFrom_25 : decode cX5_readFrom 25 = .ok (.aload_n 0, 1) := by decide +kernel
theorem dX5_readFrom_26 : decode cX5_readFrom 26 = .ok (.getfield 35, 3) := by decide +kernel
theorem dX5_readFrom_29 : decode cX5_readFrom 29 = .ok (.sipush 400, 3) := by decide +kernel
theorem dX5_readFrom_32 : decode cX5_readFrom 32 = .ok (.if_icmp .ge 43, 3) := by decide +kernel
theorem dX5_readFrom_35 : decode cX5_readFrom 35 = .ok (.aload_n 1, 1) := by decide +kernel
theorem dX5_readFrom_36 : decode cX5_readFrom 36 = .ok (.getfield 78, 3) := by decide +kernel
theorem dX5_readFrom_39 : decode cX5_readFrom 39 = .ok (.ifCond .eq 36, 3) := by decide +kernel
theorem dX5_readFrom_42 : decode cX5_readFrom 42 = .ok (.aload_n 0, 1) := by decide +kernel
theorem dX5_readFrom_43 : decode cX5_readFrom 43 = .ok (.aload_n 1, 1) := by decide +kernel
theorem dX5_readFrom_44 : decode cX5_readFrom 44 = .ok (.aload_n 2, 1) := by decide +kernel
theorem dX5_readFrom_45 : decode cX5_readFrom 45 = .ok (.invokevirtual 83, 3) := by decide +kernel
theorem dX5_readFrom_48 : decode cX5_readFrom 48 = .ok (.ifCond .eq 12, 3) := by decide +kernel
theorem dX5_readFrom_51 : decode cX5_readFrom 51 = .ok (.aload_n 1, 1) := by decide +kernel
theorem dX5_readFrom_52 : decode cX5_readFrom 52 = .ok (.bipush 59, 2) := by decide +kernel
theorem dX5_readFrom_54 : decode cX5_readFrom 54 = .ok (.invokevirtual 87, 3) := by decide +kernel
theorem dX5_readFrom_57 : decode cX5_readFrom 57 = .ok (.ifCond .ne 5, 3) := by decide +kernel
theorem dX5_readFrom_60 : decode cX5_readFrom 60 = .ok (.iconst 0, 1) := by decide +kernel
theorem dX5_readFrom_61 : decode cX5_readFrom 61 = .ok (.ireturn, 1) := by decide +kernel
theorem dX5_readFrom_62 : decode cX5_readFrom 62 = .ok (.aload_n 0, 1) := by decide +kernel
theorem dX5_readFrom_63 : decode cX5_readFrom 63 = .ok (.dup, 1) := by decide +kernel
theorem dX5_readFrom_64 : decode cX5_readFrom 64 = .ok (.getfield 35, 3) := by decide +kernel
theorem dX5_readFrom_67 : decode cX5_readFrom 67 = .ok (.iconst 1, 1) := by decide +kernel
theorem dX5_readFrom_68 : decode cX5_readFrom 68 = .ok (.iadd, 1) := by decide +kernel
theorem dX5_readFrom_69 : decode cX5_readFrom 69 = .ok (.putfield 35, 3) := by decide +kernel
theorem dX5_readFrom_72 : decode cX5_readFrom 72 = .ok (.goto (-47), 3) := by decide +kernel
theorem dX5_readFrom_75 : decode cX5_readFrom 75 = .ok (.iconst 1, 1) := by decide +kernel
theorem dX5_readFrom_76 : decode cX5_readFrom 76 = .ok (.ireturn, 1) := by decide +kernel
theorem dX5_readLine_0 : decode cX5_readLine 0 = .ok (.aload_n 1, 1) := by decide +kernel
theorem dX5_readLine_1 : decode cX5_readLine 1 = .ok (.invokevirtual 91, 3) := by decide +kernel
theorem dX5_readLine_4 : decode cX5_readLine 4 = .ok (.istore_n 3, 1) := by decide +kernel
theorem dX5_readLine_5 : decode cX5_readLine 5 = .ok (.iload_n 3, 1) := by decide +kernel
theorem dX5_readLine_6 : decode cX5_readLine 6 = .ok (.bipush 8, 2) := by decide +kernel
theorem dX5_readLine_8 : decode cX5_readLine 8 = .ok (.if_icmp .lt 9, 3) := by decide +kernel
theorem dX5_readLine_11 : decode cX5_readLine 11 = .ok (.iload_n 3, 1) := by decide +kernel
theorem dX5_readLine_12 : decode cX5_readLine 12 = .ok (.bipush 13, 2) := by decide +kernel
theorem dX5_readLine_14 : decode cX5_readLine 14 = .ok (.if_icmp .le 9, 3) := by decide +kernel
theorem dX5_readLine_17 : decode cX5_readLine 17 = .ok (.aload_n 1, 1) := by decide +kernel
theorem dX5_readLine_18 : decode cX5_readLine 18 = .ok (.iconst 1, 1) := by decide +kernel
theorem dX5_readLine_19 : decode cX5_readLine 19 = .ok (.invokevirtual 95, 3) := by decide +kernel
theorem dX5_readLine_22 : decode cX5_readLine 22 = .ok (.ireturn, 1) := by decide +kernel
theorem dX5_readLine_23 : decode cX5_readLine 23 = .ok (.aload_n 0, 1) := by decide +kernel
theorem dX5_readLine_24 : decode cX5_readLine 24 = .ok (.getfield 38, 3) := by decide +kernel
theorem dX5_readLine_27 : decode cX5_readLine 27 = .ok (.iload_n 3, 1) := by decide +kernel
theorem dX5_readLine_28 : decode cX5_readLine 28 = .ok (.ishr, 1) := by decide +kernel
theorem dX5_readLine_29 : decode cX5_readLine 29 = .ok (.iconst 1, 1) := by decide +kernel
theorem dX5_readLine_30 : decode cX5_readLine 30 = .ok (.iand, 1) := by decide +kernel
theorem dX5_readLine_31 : decode cX5_readLine 31 = .ok (.ifCond .eq 9, 3) := by decide +kernel
theorem dX5_readLine_34 : decode cX5_readLine 34 = .ok (.aload_n 1, 1) := by decide +kernel
theorem dX5_readLine_35 : decode cX5_readLine 35 = .ok (.iconst 3, 1) := by decide +kernel
theorem dX5_readLine_36 : decode cX5_readLine 36 = .ok (.invokevirtual 95, 3) := by decide +kernel
theorem dX5_readLine_39 : decode cX5_readLine 39 = .ok (.ireturn, 1) := by decide +kernel
theorem dX5_readLine_40 : decode cX5_readLine 40 = .ok (.iload_n 3, 1) := by decide +kernel
theorem dX5_readLine_41 : decode cX5_readLine 41 = .ok (.bipush 9, 2) := by decide +kernel
theorem dX5_readLine_43 : decode cX5_readLine 43 = .ok (.if_icmp .eq 21, 3) := by decide +kernel
theorem dX5_readLine_46 : decode cX5_readLine 46 = .ok (.iload_n 3, 1) := by decide +kernel
theorem dX5_readLine_47 : decode cX5_readLine 47 = .ok (.bipush 11, 2) := by decide +kernel
theorem dX5_readLine_49 : decode cX5_readLine 49 = .ok (.if_icmp .eq 15, 3) := by decide +kernel
theorem dX5_readLine_52 : decode cX5_readLine 52 = .ok (.aload_n 0, 1) := by decide +kernel
theorem dX5_readLine_53 : decode cX5_readLine 53 = .ok (.dup, 1) := by decide +kernel
theorem dX5_readLine_54 : decode cX5_readLine 54 = .ok (.getfield 38, 3) := by decide +kernel
theorem dX5_readLine_57 : decode cX5_readLine 57 = .ok (.iconst 1, 1) := by decide +kernel
theorem dX5_readLine_58 : decode cX5_readLine 58 = .ok (.iload_n 3, 1) := by decide +kernel
theorem dX5_readLine_59 : decode cX5_readLine 59 = .ok (.ishl, 1) := by decide +kernel
theorem dX5_readLine_60 : decode cX5_readLine 60 = .ok (.ior, 1) := by decide +kernel
theorem dX5_readLine_61 : decode cX5_readLine 61 = .ok (.putfield 38, 3) := by decide +kernel
theorem dX5_readLine_64 : decode cX5_readLine 64 = .ok (.aload_n 1, 1) := by decide +kernel
theorem dX5_readLine_65 : decode cX5_readLine 65 = .ok (.invokevirtual 98, 3) := by decide +kernel
theorem dX5_readLine_68 : decode cX5_readLine 68 = .ok (.iload_n 3, 1) := by decide +kernel
theorem dX5_readLine_69 : decode cX5_readLine 69 = .ok (.tableswitch 69 8 12 #[35, 42, 49, 55, 62], 35) := by decide +kernel
theorem dX5_readLine_104 : decode cX5_readLine 104 = .ok (.aload_n 0, 1) := by decide +kernel
theorem dX5_readLine_105 : decode cX5_readLine 105 = .ok (.aload_n 1, 1) := by decide +kernel
theorem dX5_readLine_106 : decode cX5_readLine 106 = .ok (.aload_n 2, 1) := by decide +kernel
theorem dX5_readLine_107 : decode cX5_readLine 107 = .ok (.invokevirtual 101, 3) := by decide +kernel
theorem dX5_readLine_110 : decode cX5_readLine 110 = .ok (.ireturn, 1) := by decide +kernel
theorem dX5_readLine_111 : decode cX5_readLine 111 = .ok (.aload_n 0, 1) := by decide +kernel
theorem dX5_readLine_112 : decode cX5_readLine 112 = .ok (.aload_n 1, 1) := by decide +kernel
theorem dX5_readLine_113 : decode cX5_readLine 113 = .ok (.aload_n 2, 1) := by decide +kernel
theorem dX5_readLine_114 : decode cX5_readLine 114 = .ok (.invokevirtual 104, 3) := by decide +kernel
theorem dX5_readLine_117 : decode cX5_readLine 117 = .ok (.ireturn, 1) := by decide +kernel
theorem dX5_readLine_118 : decode cX5_readLine 118 = .ok (.aload_n 0, 1) := by decide +kernel
theorem dX5_readLine_119 : decode cX5_readLine 119 = .ok (.aload_n 1, 1) := by decide +kernel
theorem dX5_readLine_120 : decode cX5_readLine 120 = .ok (.invokevirtual 107, 3) := by decide +kernel
theorem dX5_readLine_123 : decode cX5_readLine 123 = .ok (.ireturn, 1) := by decide +kernel
theorem dX5_readLine_124 : decode cX5_readLine 124 = .ok (.aload_n 0, 1) := by decide +kernel
theorem dX5_readLine_125 : decode cX5_readLine 125 = .ok (.aload_n 1, 1) := by decide +kernel
theorem dX5_readLine_126 : decode cX5_readLine 126 = .ok (.aload_n 2, 1) := by decide +kernel
theorem dX5_readLine_127 : decode cX5_readLine 127 = .ok (.invokevirtual 111, 3) := by decide +kernel
theorem dX5_readLine_130 : decode cX5_readLine 130 = .ok (.ireturn, 1) := by decide +kernel
theorem dX5_readLine_131 : decode cX5_readLine 131 = .ok (.aload_n 0, 1) := by decide +kernel
theorem dX5_readLine_132 : decode cX5_readLine 132 = .ok (.aload_n 1, 1) := by decide +kernel
theorem dX5_readLine_133 : decode cX5_readLine 133 = .ok (.aload_n 2, 1) := by decide +kernel
theorem dX5_readLine_134 : decode cX5_readLine 134 = .ok (.invokevirtual 114, 3) := by decide +kernel
theorem dX5_readLine_137 : decode cX5_readLine 137 = .ok (.ireturn, 1) := by decide +kernel
theorem dX5_readLine_138 : decode cX5_readLine 138 = .ok (.aload_n 0, 1) := by decide +kernel
theorem dX5_readLine_139 : decode cX5_readLine 139 = .ok (.aload_n 1, 1) := by decide +kernel
theorem dX5_readLine_140 : decode cX5_readLine 140 = .ok (.invokevirtual 117, 3) := by decide +kernel
theorem dX5_readLine_143 : decode cX5_readLine 143 = .ok (.ireturn, 1) := by decide +kernel
theorem dX5_readCrew_0 : decode cX5_readCrew 0 = .ok (.iconst 0, 1) := by decide +kernel
theorem dX5_readCrew_1 : decode cX5_readCrew 1 = .ok (.istore_n 3, 1) := by decide +kernel
theorem dX5_readCrew_2 : decode cX5_readCrew 2 = .ok (.iload_n 3, 1) := by decide +kernel
theorem dX5_readCrew_3 : decode cX5_readCrew 3 = .ok (.iconst 4, 1) := by decide +kernel
theorem dX5_readCrew_4 : decode cX5_readCrew 4 = .ok (.if_icmp .ge 67, 3) := by decide +kernel
theorem dX5_readCrew_7 : decode cX5_readCrew 7 = .ok (.aload_n 1, 1) := by decide +kernel
theorem dX5_readCrew_8 : decode cX5_readCrew 8 = .ok (.invokevirtual 120, 3) := by decide +kernel
theorem dX5_readCrew_11 : decode cX5_readCrew 11 = .ok (.ifCond .ne 9, 3) := by decide +kernel
theorem dX5_readCrew_14 : decode cX5_readCrew 14 = .ok (.aload_n 1, 1) := by decide +kernel
theorem dX5_readCrew_15 : decode cX5_readCrew 15 = .ok (.iconst 1, 1) := by decide +kernel
theorem dX5_readCrew_16 : decode cX5_readCrew 16 = .ok (.invokevirtual 95, 3) := by decide +kernel
theorem dX5_readCrew_19 : decode cX5_readCrew 19 = .ok (.ireturn, 1) := by decide +kernel
theorem dX5_readCrew_20 : decode cX5_readCrew 20 = .ok (.aload_n 2, 1) := by decide +kernel
theorem dX5_readCrew_21 : decode cX5_readCrew 21 = .ok (.aload_n 1, 1) := by decide +kernel
theorem dX5_readCrew_22 : decode cX5_readCrew 22 = .ok (.getfield 124, 3) := by decide +kernel
theorem dX5_readCrew_25 : decode cX5_readCrew 25 = .ok (.invokevirtual 128, 3) := by decide +kernel
theorem dX5_readCrew_28 : decode cX5_readCrew 28 = .ok (.istore 4, 2) := by decide +kernel
theorem dX5_readCrew_30 : decode cX5_readCrew 30 = .ok (.iload 4, 2) := by decide +kernel
theorem dX5_readCrew_32 : decode cX5_readCrew 32 = .ok (.iconst (-1), 1) := by decide +kernel
theorem dX5_readCrew_33 : decode cX5_readCrew 33 = .ok (.if_icmp .eq 14, 3) := by decide +kernel
theorem dX5_readCrew_36 : decode cX5_readCrew 36 = .ok (.aload_n 0, 1) := by decide +kernel
theorem dX5_readCrew_37 : decode cX5_readCrew 37 = .ok (.iload 4, 2) := by decide +kernel
theorem dX5_readCrew_39 : decode cX5_readCrew 39 = .ok (.iload_n 3, 1) := by decide +kernel
theorem dX5_readCrew_40 : decode cX5_readCrew 40 = .ok (.invokevirtual 70, 3) := by decide +kernel
theorem dX5_readCrew_43 : decode cX5_readCrew 43 = .ok (.iconst (-1), 1) := by decide +kernel
theorem dX5_readCrew_44 : decode cX5_readCrew 44 = .ok (.if_icmp .eq 9, 3) := by decide +kernel
theorem dX5_readCrew_47 : decode cX5_readCrew 47 = .ok (.aload_n 1, 1) := by decide +kernel
theorem dX5_readCrew_48 : decode cX5_readCrew 48 = .ok (.iconst 3, 1) := by decide +kernel
theorem dX5_readCrew_49 : decode cX5_readCrew 49 = .ok (.invokevirtual 95, 3) := by decide +kernel
theorem dX5_readCrew_52 : decode cX5_readCrew 52 = .ok (.ireturn, 1) := by decide +kernel
theorem dX5_readCrew_53 : decode cX5_readCrew 53 = .ok (.aload_n 0, 1) := by decide +kernel
theorem dX5_readCrew_54 : decode cX5_readCrew 54 = .ok (.getfield 9, 3) := by decide +kernel
theorem dX5_readCrew_57 : decode cX5_readCrew 57 = .ok (.iload_n 3, 1) := by decide +kernel
theorem dX5_readCrew_58 : decode cX5_readCrew 58 = .ok (.iload 4, 2) := by decide +kernel
theorem dX5_readCrew_60 : decode cX5_readCrew 60 = .ok (.iastore, 1) := by decide +kernel
theorem dX5_readCrew_61 : decode cX5_readCrew 61 = .ok (.aload_n 1, 1) := by decide +kernel
theorem dX5_readCrew_62 : decode cX5_readCrew 62 = .ok (.invokevirtual 98, 3) := by decide +kernel
theorem dX5_readCrew_65 : decode cX5_readCrew 65 = .ok (.iinc 3 1, 3) := by decide +kernel
theorem dX5_readCrew_68 : decode cX5_readCrew 68 = .ok (.goto (-66), 3) := by decide +kernel
theorem dX5_readCrew_71 : decode cX5_readCrew 71 = .ok (.aload_n 0, 1) := by decide +kernel
theorem dX5_readCrew_72 : decode cX5_readCrew 72 = .ok (.iconst 1, 1) := by decide +kernel
theorem dX5_readCrew_73 : decode cX5_readCrew 73 = .ok (.putfield 21, 3) := by decide +kernel
theorem dX5_readCrew_76 : decode cX5_readCrew 76 = .ok (.iconst 1, 1) := by decide +kernel
theorem dX5_readCrew_77 : decode cX5_readCrew 77 = .ok (.ireturn, 1) := by decide +kernel
theorem dX5_readJump_0 : decode cX5_readJump 0 = .ok (.aload_n 1, 1) := by decide +kernel
theorem dX5_readJump_1 : decode cX5_readJump 1 = .ok (.invokevirtual 120, 3) := by decide +kernel
theorem dX5_readJump_4 : decode cX5_readJump 4 = .ok (.ifCond .ne 9, 3) := by decide +kernel
theorem dX5_readJump_7 : decode cX5_readJump 7 = .ok (.aload_n 1, 1) := by decide +kernel
theorem dX5_readJump_8 : decode cX5_readJump 8 = .ok (.iconst 1, 1) := by decide +kernel
theorem dX5_readJump_9 : decode cX5_readJump 9 = .ok (.invokevirtual 95, 3) := by decide +kernel
theorem dX5_readJump_12 : decode cX5_readJump 12 = .ok (.ireturn, 1) := by decide +kernel
theorem dX5_readJump_13 : decode cX5_readJump 13 = .ok (.aload_n 2, 1) := by decide +kernel
theorem dX5_readJump_14 : decode cX5_readJump 14 = .ok (.aload_n 1, 1) := by decide +kernel
theorem dX5_readJump_15 : decode cX5_readJump 15 = .ok (.getfield 124, 3) := by decide +kernel
theorem dX5_readJump_18 : decode cX5_readJump 18 = .ok (.invokevirtual 128, 3) := by decide +kernel
theorem dX5_readJump_21 : decode cX5_readJump 21 = .ok (.istore_n 3, 1) := by decide +kernel
theorem dX5_readJump_22 : decode cX5_readJump 22 = .ok (.iload_n 3, 1) := by decide +kernel
theorem dX5_readJump_23 : decode cX5_readJump 23 = .ok (.iconst (-1), 1) := by decide +kernel
theorem dX5_readJump_24 : decode cX5_readJump 24 = .ok (.if_icmp .ne 7, 3) := by decide +kernel
theorem dX5_readJump_27 : decode cX5_readJump 27 = .ok (.iconst (-1), 1) := by decide +kernel
theorem dX5_readJump_28 : decode cX5_readJump 28 = .ok (.goto 8, 3) := by decide +kernel
theorem dX5_readJump_31 : decode cX5_readJump 31 = .ok (.aload_n 0, 1) := by decide +kernel
theorem dX5_readJump_32 : decode cX5_readJump 32 = .ok (.iload_n 3, 1) := by decide +kernel
theorem dX5_readJump_33 : decode cX5_readJump 33 = .ok (.invokevirtual 132, 3) := by decide +kernel
theorem dX5_readJump_36 : decode cX5_readJump 36 = .ok (.istore 4, 2) := by decide +kernel
theorem dX5_readJump_38 : decode cX5_readJump 38 = .ok (.iload 4, 2) := by decide +kernel
theorem dX5_readJump_40 : decode cX5_readJump 40 = .ok (.iconst (-1), 1) := by decide +kernel
theorem dX5_readJump_41 : decode cX5_readJump 41 = .ok (.if_icmp .eq 15, 3) := by decide +kernel
theorem dX5_readJump_44 : decode cX5_readJump 44 = .ok (.aload_n 0, 1) := by decide +kernel
theorem dX5_readJump_45 : decode cX5_readJump 45 = .ok (.getfield 41, 3) := by decide +kernel
theorem dX5_readJump_48 : decode cX5_readJump 48 = .ok (.iload 4, 2) := by decide +kernel
theorem dX5_readJump_50 : decode cX5_readJump 50 = .ok (.ishr, 1) := by decide +kernel
theorem dX5_readJump_51 : decode cX5_readJump 51 = .ok (.iconst 1, 1) := by decide +kernel
theorem dX5_readJump_52 : decode cX5_readJump 52 = .ok (.iand, 1) := by decide +kernel
theorem dX5_readJump_53 : decode cX5_readJump 53 = .ok (.ifCond .eq 9, 3) := by decide +kernel
theorem dX5_readJump_56 : decode cX5_readJump 56 = .ok (.aload_n 1, 1) := by decide +kernel
theorem dX5_readJump_57 : decode cX5_readJump 57 = .ok (.iconst 3, 1) := by decide +kernel
theorem dX5_readJump_58 : decode cX5_readJump 58 = .ok (.invokevirtual 95, 3) := by decide +kernel
theorem dX5_readJump_61 : decode cX5_readJump 61 = .ok (.ireturn, 1) := by decide +kernel
theorem dX5_readJump_62 : decode cX5_readJump 62 = .ok (.aload_n 0, 1) := by decide +kernel
theorem dX5_readJump_63 : decode cX5_readJump 63 = .ok (.dup, 1) := by decide +kernel
theorem dX5_readJump_64 : decode cX5_readJump 64 = .ok (.getfield 41, 3) := by decide +kernel
theorem dX5_readJump_67 : decode cX5_readJump 67 = .ok (.iconst 1, 1) := by decide +kernel
theorem dX5_readJump_68 : decode cX5_readJump 68 = .ok (.iload 4, 2) := by decide +kernel
theorem dX5_readJump_70 : decode cX5_readJump 70 = .ok (.ishl, 1) := by decide +kernel
theorem dX5_readJump_71 : decode cX5_readJump 71 = .ok (.ior, 1) := by decide +kernel
theorem dX5_readJump_72 : decode cX5_readJump 72 = .ok (.putfield 41, 3) := by decide +kernel
theorem dX5_readJump_75 : decode cX5_readJump 75 = .ok (.aload_n 1, 1) := by decide +kernel
theorem dX5_readJump_76 : decode cX5_readJump 76 = .ok (.invokevirtual 98, 3) := by decide +kernel
theorem dX5_readJump_79 : decode cX5_readJump 79 = .ok (.aload_n 1, 1) := by decide +kernel
theorem dX5_readJump_80 : decode cX5_readJump 80 = .ok (.iconst 0, 1) := by decide +kernel
theorem dX5_readJump_81 : decode cX5_readJump 81 = .ok (.aload_n 2, 1) := by decide +kernel
theorem dX5_readJump_82 : decode cX5_readJump 82 = .ok (.getfield 58, 3) := by decide +kernel
theorem dX5_readJump_85 : decode cX5_readJump 85 = .ok (.iconst 0, 1) := by decide +kernel
theorem dX5_readJump_86 : decode cX5_readJump 86 = .ok (.iaload, 1) := by decide +kernel
theorem dX5_readJump_87 : decode cX5_readJump 87 = .ok (.iconst 1, 1) := by decide +kernel
theorem dX5_readJump_88 : decode cX5_readJump 88 = .ok (.isub, 1) := by decide +kernel
theorem dX5_readJump_89 : decode cX5_readJump 89 = .ok (.invokevirtual 136, 3) := by decide +kernel
theorem dX5_readJump_92 : decode cX5_readJump 92 = .ok (.ifCond .ne 5, 3) := by decide +kernel
theorem dX5_readJump_95 : decode cX5_readJump 95 = .ok (.iconst 0, 1) := by decide +kernel
theorem dX5_readJump_96 : decode cX5_readJump 96 = .ok (.ireturn, 1) := by decide +kernel
theorem dX5_readJump_97 : decode cX5_readJump 97 = .ok (.aload_n 0, 1) := by decide +kernel
theorem dX5_readJump_98 : decode cX5_readJump 98 = .ok (.getfield 15, 3) := by decide +kernel
theorem dX5_readJump_101 : decode cX5_readJump 101 = .ok (.iload 4, 2) := by decide +kernel
theorem dX5_readJump_103 : decode cX5_readJump 103 = .ok (.aload_n 1, 1) := by decide +kernel
theorem dX5_readJump_104 : decode cX5_readJump 104 = .ok (.getfield 140, 3) := by decide +kernel
theorem dX5_readJump_107 : decode cX5_readJump 107 = .ok (.iastore, 1) := by decide +kernel
theorem dX5_readJump_108 : decode cX5_readJump 108 = .ok (.iconst 1, 1) := by decide +kernel
theorem dX5_readJump_109 : decode cX5_readJump 109 = .ok (.ireturn, 1) := by decide +kernel
theorem dX5_readLead_0 : decode cX5_readLead 0 = .ok (.aload_n 1, 1) := by decide +kernel
theorem dX5_readLead_1 : decode cX5_readLead 1 = .ok (.iconst 0, 1) := by decide +kernel
theorem dX5_readLead_2 : decode cX5_readLead 2 = .ok (.bipush 99, 2) := by decide +kernel
theorem dX5_readLead_4 : decode cX5_readLead 4 = .ok (.invokevirtual 136, 3) := by decide +kernel
theorem dX5_readLead_7 : decode cX5_readLead 7 = .ok (.ifCond .ne 5, 3) := by decide +kernel
theorem dX5_readLead_10 : decode cX5_readLead 10 = .ok (.iconst 0, 1) := by decide +kernel
theorem dX5_readLead_11 : decode cX5_readLead 11 = .ok (.ireturn, 1) := by decide +kernel
theorem dX5_readLead_12 : decode cX5_readLead 12 = .ok (.aload_n 0, 1) := by decide +kernel
theorem dX5_readLead_13 : decode cX5_readLead 13 = .ok (.aload_n 1, 1) := by decide +kernel
theorem dX5_readLead_14 : decode cX5_readLead 14 = .ok (.getfield 140, 3) := by decide +kernel
theorem dX5_readLead_17 : decode cX5_readLead 17 = .ok (.putfield 25, 3) := by decide +kernel
theorem dX5_readLead_20 : decode cX5_readLead 20 = .ok (.iconst 1, 1) := by decide +kernel
theorem dX5_readLead_21 : decode cX5_readLead 21 = .ok (.ireturn, 1) := by decide +kernel
theorem dX5_readHigh_0 : decode cX5_readHigh 0 = .ok (.aload_n 1, 1) := by decide +kernel
theorem dX5_readHigh_1 : decode cX5_readHigh 1 = .ok (.aload_n 0, 1) := by decide +kernel
theorem dX5_readHigh_2 : decode cX5_readHigh 2 = .ok (.getfield 44, 3) := by decide +kernel
theorem dX5_readHigh_5 : decode cX5_readHigh 5 = .ok (.invokevirtual 141, 3) := by decide +kernel
theorem dX5_readHigh_8 : decode cX5_readHigh 8 = .ok (.ifCond .eq 9, 3) := by decide +kernel
theorem dX5_readHigh_11 : decode cX5_readHigh 11 = .ok (.aload_n 1, 1) := by decide +kernel
theorem dX5_readHigh_12 : decode cX5_readHigh 12 = .ok (.iconst 3, 1) := by decide +kernel
theorem dX5_readHigh_13 : decode cX5_readHigh 13 = .ok (.invokevirtual 95, 3) := by decide +kernel
theorem dX5_readHigh_16 : decode cX5_readHigh 16 = .ok (.ireturn, 1) := by decide +kernel
theorem dX5_readHigh_17 : decode cX5_readHigh 17 = .ok (.aload_n 1, 1) := by decide +kernel
theorem dX5_readHigh_18 : decode cX5_readHigh 18 = .ok (.iconst 0, 1) := by decide +kernel
theorem dX5_readHigh_19 : decode cX5_readHigh 19 = .ok (.aload_n 2, 1) := by decide +kernel
theorem dX5_readHigh_20 : decode cX5_readHigh 20 = .ok (.getfield 144, 3) := by decide +kernel
theorem dX5_readHigh_23 : decode cX5_readHigh 23 = .ok (.iconst 1, 1) := by decide +kernel
theorem dX5_readHigh_24 : decode cX5_readHigh 24 = .ok (.isub, 1) := by decide +kernel
theorem dX5_readHigh_25 : decode cX5_readHigh 25 = .ok (.invokevirtual 136, 3) := by decide +kernel
theorem dX5_readHigh_28 : decode cX5_readHigh 28 = .ok (.ifCond .ne 5, 3) := by decide +kernel
theorem dX5_readHigh_31 : decode cX5_readHigh 31 = .ok (.iconst 0, 1) := by decide +kernel
theorem dX5_readHigh_32 : decode cX5_readHigh 32 = .ok (.ireturn, 1) := by decide +kernel
theorem dX5_readHigh_33 : decode cX5_readHigh 33 = .ok (.aload_n 1, 1) := by decide +kernel
theorem dX5_readHigh_34 : decode cX5_readHigh 34 = .ok (.getfield 140, 3) := by decide +kernel
theorem dX5_readHigh_37 : decode cX5_readHigh 37 = .ok (.istore_n 3, 1) := by decide +kernel
theorem dX5_readHigh_38 : decode cX5_readHigh 38 = .ok (.aload_n 0, 1) := by decide +kernel
theorem dX5_readHigh_39 : decode cX5_readHigh 39 = .ok (.dup, 1) := by decide +kernel
theorem dX5_readHigh_40 : decode cX5_readHigh 40 = .ok (.getfield 44, 3) := by decide +kernel
theorem dX5_readHigh_43 : decode cX5_readHigh 43 = .ok (.iconst 1, 1) := by decide +kernel
theorem dX5_readHigh_44 : decode cX5_readHigh 44 = .ok (.iload_n 3, 1) := by decide +kernel
theorem dX5_readHigh_45 : decode cX5_readHigh 45 = .ok (.ishl, 1) := by decide +kernel
theorem dX5_readHigh_46 : decode cX5_readHigh 46 = .ok (.ior, 1) := by decide +kernel
theorem dX5_readHigh_47 : decode cX5_readHigh 47 = .ok (.putfield 44, 3) := by decide +kernel
theorem dX5_readHigh_50 : decode cX5_readHigh 50 = .ok (.aload_n 1, 1) := by decide +kernel
theorem dX5_readHigh_51 : decode cX5_readHigh 51 = .ok (.iconst 0, 1) := by decide +kernel
theorem dX5_readHigh_52 : decode cX5_readHigh 52 = .ok (.bipush 9, 2) := by decide +kernel
theorem dX5_readHigh_54 : decode cX5_readHigh 54 = .ok (.invokevirtual 136, 3) := by decide +kernel
theorem dX5_readHigh_57 : decode cX5_readHigh 57 = .ok (.ifCond .ne 5, 3) := by decide +kernel
theorem dX5_readHigh_60 : decode cX5_readHigh 60 = .ok (.iconst 0, 1) := by decide +kernel
theorem dX5_readHigh_61 : decode cX5_readHigh 61 = .ok (.ireturn, 1) := by decide +kernel
theorem dX5_readHigh_62 : decode cX5_readHigh 62 = .ok (.aload_n 0, 1) := by decide +kernel
theorem dX5_readHigh_63 : decode cX5_readHigh 63 = .ok (.getfield 18, 3) := by decide +kernel
theorem dX5_readHigh_66 : decode cX5_readHigh 66 = .ok (.iload_n 3, 1) := by decide +kernel
theorem dX5_readHigh_67 : decode cX5_readHigh 67 = .ok (.aload_n 1, 1) := by decide +kernel
theorem dX5_readHigh_68 : decode cX5_readHigh 68 = .ok (.getfield 140, 3) := by decide +kernel
theorem dX5_readHigh_71 : decode cX5_readHigh 71 = .ok (.iastore, 1) := by decide +kernel
theorem dX5_readHigh_72 : decode cX5_readHigh 72 = .ok (.iconst 1, 1) := by decide +kernel
theorem dX5_readHigh_73 : decode cX5_readHigh 73 = .ok (.ireturn, 1) := by decide +kernel
theorem dX5_readOn_0 : decode cX5_readOn 0 = .ok (.aload_n 1, 1) := by decide +kernel
theorem dX5_readOn_1 : decode cX5_readOn 1 = .ok (.invokevirtual 120, 3) := by decide +kernel
theorem dX5_readOn_4 : decode cX5_readOn 4 = .ok (.ifCond .ne 9, 3) := by decide +kernel
theorem dX5_readOn_7 : decode cX5_readOn 7 = .ok (.aload_n 1, 1) := by decide +kernel
theorem dX5_readOn_8 : decode cX5_readOn 8 = .ok (.iconst 1, 1) := by decide +kernel
theorem dX5_readOn_9 : decode cX5_readOn 9 = .ok (.invokevirtual 95, 3) := by decide +kernel
theorem dX5_readOn_12 : decode cX5_readOn 12 = .ok (.ireturn, 1) := by decide +kernel
theorem dX5_readOn_13 : decode cX5_readOn 13 = .ok (.aload_n 2, 1) := by decide +kernel
theorem dX5_readOn_14 : decode cX5_readOn 14 = .ok (.aload_n 1, 1) := by decide +kernel
theorem dX5_readOn_15 : decode cX5_readOn 15 = .ok (.getfield 124, 3) := by decide +kernel
theorem dX5_readOn_18 : decode cX5_readOn 18 = .ok (.invokevirtual 147, 3) := by decide +kernel
theorem dX5_readOn_21 : decode cX5_readOn 21 = .ok (.istore_n 3, 1) := by decide +kernel
theorem dX5_readOn_22 : decode cX5_readOn 22 = .ok (.iload_n 3, 1) := by decide +kernel
theorem dX5_readOn_23 : decode cX5_readOn 23 = .ok (.iconst (-1), 1) := by decide +kernel
theorem dX5_readOn_24 : decode cX5_readOn 24 = .ok (.if_icmp .ne 9, 3) := by decide +kernel
theorem dX5_readOn_27 : decode cX5_readOn 27 = .ok (.aload_n 1, 1) := by decide +kernel
theorem dX5_readOn_28 : decode cX5_readOn 28 = .ok (.iconst 3, 1) := by decide +kernel
theorem dX5_readOn_29 : decode cX5_readOn 29 = .ok (.invokevirtual 95, 3) := by decide +kernel
theorem dX5_readOn_32 : decode cX5_readOn 32 = .ok (.ireturn, 1) := by decide +kernel
theorem dX5_readOn_33 : decode cX5_readOn 33 = .ok (.aload_n 0, 1) := by decide +kernel
theorem dX5_readOn_34 : decode cX5_readOn 34 = .ok (.iload_n 3, 1) := by decide +kernel
theorem dX5_readOn_35 : decode cX5_readOn 35 = .ok (.putfield 29, 3) := by decide +kernel
theorem dX5_readOn_38 : decode cX5_readOn 38 = .ok (.aload_n 1, 1) := by decide +kernel
theorem dX5_readOn_39 : decode cX5_readOn 39 = .ok (.invokevirtual 98, 3) := by decide +kernel
theorem dX5_readOn_42 : decode cX5_readOn 42 = .ok (.iconst 1, 1) := by decide +kernel
theorem dX5_readOn_43 : decode cX5_readOn 43 = .ok (.ireturn, 1) := by decide +kernel
theorem dX5_readStart_0 : decode cX5_readStart 0 = .ok (.aload_n 1, 1) := by decide +kernel
theorem dX5_readStart_1 : decode cX5_readStart 1 = .ok (.iconst 1, 1) := by decide +kernel
theorem dX5_readStart_2 : decode cX5_readStart 2 = .ok (.bipush 60, 2) := by decide +kernel
theorem dX5_readStart_4 : decode cX5_readStart 4 = .ok (.invokevirtual 136, 3) := by decide +kernel
theorem dX5_readStart_7 : decode cX5_readStart 7 = .ok (.ifCond .ne 5, 3) := by decide +kernel
theorem dX5_readStart_10 : decode cX5_readStart 10 = .ok (.iconst 0, 1) := by decide +kernel
theorem dX5_readStart_11 : decode cX5_readStart 11 = .ok (.ireturn, 1) := by decide +kernel
theorem dX5_readStart_12 : decode cX5_readStart 12 = .ok (.aload_n 0, 1) := by decide +kernel
theorem dX5_readStart_13 : decode cX5_readStart 13 = .ok (.aload_n 1, 1) := by decide +kernel
theorem dX5_readStart_14 : decode cX5_readStart 14 = .ok (.getfield 140, 3) := by decide +kernel
theorem dX5_readStart_17 : decode cX5_readStart 17 = .ok (.putfield 32, 3) := by decide +kernel
theorem dX5_readStart_20 : decode cX5_readStart 20 = .ok (.iconst 1, 1) := by decide +kernel
theorem dX5_readStart_21 : decode cX5_readStart 21 = .ok (.ireturn, 1) := by decide +kernel
theorem dX6_init_0 : decode cX6_init 0 = .ok (.aload_n 0, 1) := by decide +kernel
theorem dX6_init_1 : decode cX6_init 1 = .ok (.invokespecial 3, 3) := by decide +kernel
theorem dX6_init_4 : decode cX6_init 4 = .ok (.aload_n 0, 1) := by decide +kernel
theorem dX6_init_5 : decode cX6_init 5 = .ok (.sipush 940, 3) := by decide +kernel
theorem dX6_init_8 : decode cX6_init 8 = .ok (.newarray .byte, 2) := by decide +kernel
theorem dX6_init_10 : decode cX6_init 10 = .ok (.putfield 11, 3) := by decide +kernel
theorem dX6_init_13 : decode cX6_init 13 = .ok (.aload_n 0, 1) := by decide +kernel
theorem dX6_init_14 : decode cX6_init 14 = .ok (.iconst 0, 1) := by decide +kernel
theorem dX6_init_15 : decode cX6_init 15 = .ok (.putfield 15, 3) := by decide +kernel
theorem dX6_init_18 : decode cX6_init 18 = .ok (.aload_n 0, 1) := by decide +kernel
theorem dX6_init_19 : decode cX6_init 19 = .ok (.iconst 0, 1) := by decide +kernel
theorem dX6_init_20 : decode cX6_init 20 = .ok (.putfield 19, 3) := by decide +kernel
theorem dX6_init_23 : decode cX6_init 23 = .ok (.aload_n 0, 1) := by decide +kernel
theorem dX6_init_24 : decode cX6_init 24 = .ok (.iconst 0, 1) := by decide +kernel
theorem dX6_init_25 : decode cX6_init 25 = .ok (.putfield 22, 3) := by decide +kernel
theorem dX6_init_28 : decode cX6_init 28 = .ok (.aload_n 0, 1) := by decide +kernel
theorem dX6_init_29 : decode cX6_init 29 = .ok (.iconst 0, 1) := by decide +kernel
theorem dX6_init_30 : decode cX6_init 30 = .ok (.putfield 25, 3) := by decide +kernel
theorem dX6_init_33 : decode cX6_init 33 = .ok (.aload_n 0, 1) := by decide +kernel
theorem dX6_init_34 : decode cX6_init 34 = .ok (.lconst 0, 1) := by decide +kernel
theorem dX6_init_35 : decode cX6_init 35 = .ok (.putfield 28, 3) := by decide +kernel
theorem dX6_init_38 : decode cX6_init 38 = .ok (.aload_n 0, 1) := by decide +kernel
theorem dX6_init_39 : decode cX6_init 39 = .ok (.iconst 0, 1) := by decide +kernel
theorem dX6_init_40 : decode cX6_init 40 = .ok (.putfield 32, 3) := by decide +kernel
theorem dX6_init_43 : decode cX6_init 43 = .ok (.aload_n 0, 1) := by decide +kernel
theorem dX6_init_44 : decode cX6_init 44 = .ok (.iconst 0, 1) := by decide +kernel
theorem dX6_init_45 : decode cX6_init 45 = .ok (.putfield 35, 3) := by decide +kernel
theorem dX6_init_48 : decode cX6_init 48 = .ok (.aload_n 0, 1) := by decide +kernel
theorem dX6_init_49 : decode cX6_init 49 = .ok (.iconst 0, 1) := by decide +kernel
theorem dX6_init_50 : decode cX6_init 50 = .ok (.putfield 38, 3) := by decide +kernel
theorem dX6_init_53 : decode cX6_init 53 = .ok (.aload_n 0, 1) := by decide +kernel
theorem dX6_init_54 : decode cX6_init 54 = .ok (.bipush 23, 2) := by decide +kernel
theorem dX6_init_56 : decode cX6_init 56 = .ok (.newarray .long, 2) := by decide +kernel
theorem dX6_init_58 : decode cX6_init 58 = .ok (.putfield 41, 3) := by decide +kernel
theorem dX6_init_61 : decode cX6_init 61 = .ok (.aload_n 0, 1) := by decide +kernel
theorem dX6_init_62 : decode cX6_init 62 = .ok (.iconst 0, 1) := by decide +kernel
theorem dX6_init_63 : decode cX6_init 63 = .ok (.putfield 45, 3) := by decide +kernel
theorem dX6_init_66 : decode cX6_init 66 = .ok (.aload_n 0, 1) := by decide +kernel
theorem dX6_init_67 : decode cX6_init 67 = .ok (.iconst 0, 1) := by decide +kernel
theorem dX6_init_68 : decode cX6_init 68 = .ok (.putfield 48, 3) := by decide +kernel
theorem dX6_init_71 : decode cX6_init 71 = .ok (.iconst 0, 1) := by decide +kernel
theorem dX6_init_72 : decode cX6_init 72 = .ok (.istore_n 1, 1) := by decide +kernel
theorem dX6_init_73 : decode cX6_init 73 = .ok (.iload_n 1, 1) := by decide +kernel
theorem dX6_init_74 : decode cX6_init 74 = .ok (.ldc 51, 2) := by decide +kernel
theorem dX6_init_76 : decode cX6_init 76 = .ok (.invokevirtual 53, 3) := by decide +kernel
theorem dX6_init_79 : decode cX6_init 79 = .ok (.if_icmp .ge 58, 3) := by decide +kernel
theorem dX6_init_82 : decode cX6_init 82 = .ok (.ldc 51, 2) := by decide +kernel
theorem dX6_init_84 : decode cX6_init 84 = .ok (.iload_n 1, 1) := by decide +kernel
theorem dX6_init_85 : decode cX6_init 85 = .ok (.invokevirtual 58, 3) := by decide +kernel
theorem dX6_init_88 : decode cX6_init 88 = .ok (.istore_n 2, 1) := by decide +kernel
theorem dX6_init_89 : decode cX6_init 89 = .ok (.iload_n 1, 1) := by decide +kernel
theorem dX6_init_90 : decode cX6_init 90 = .ok (.bipush 7, 2) := by decide +kernel
theorem dX6_init_92 : decode cX6_init 92 = .ok (.idiv, 1) := by decide +kernel
theorem dX6_init_93 : decode cX6_init 93 = .ok (.istore_n 3, 1) := by decide +kernel
theorem dX6_init_94 : decode cX6_init 94 = .ok (.iload_n 2, 1) := by decide +kernel
theorem dX6_init_95 : decode cX6_init 95 = .ok (.bipush 32, 2) := by decide +kernel
theorem dX6_init_97 : decode cX6_init 97 = .ok (.if_icmp .eq 34, 3) := by decide +kernel
theorem dX6_init_100 : decode cX6_init 100 = .ok (.iload_n 3, 1) := by decide +kernel
theorem dX6_init_101 : decode cX6_init 101 = .ok (.bipush 23, 2) := by decide +kernel
theorem dX6_init_103 : decode cX6_init 103 = .ok (.if_icmp .ge 28, 3) := by decide +kernel
theorem dX6_init_106 : decode cX6_init 106 = .ok (.aload_n 0, 1) := by decide +kernel
theorem dX6_init_107 : decode cX6_init 107 = .ok (.getfield 41, 3) := by decide +kernel
theorem dX6_init_110 : decode cX6_init 110 = .ok (.iload_n 3, 1) := by decide +kernel
theorem dX6_init_111 : decode cX6_init 111 = .ok (.aload_n 0, 1) := by decide +kernel
theorem dX6_init_112 : decode cX6_init 112 = .ok (.getfield 41, 3) := by decide +kernel
theorem dX6_init_115 : decode cX6_init 115 = .ok (.iload_n 3, 1) := by decide +kernel
theorem dX6_init_116 : decode cX6_init 116 = .ok (.laload, 1) := by decide +kernel
theorem dX6_init_117 : decode cX6_init 117 = .ok (.ldc2_w 62, 3) := by decide +kernel
theorem dX6_init_120 : decode cX6_init 120 = .ok (.lmul, 1) := by decide +kernel
theorem dX6_init_121 : decode cX6_init 121 = .ok (.iload_n 2, 1) := by decide +kernel
theorem dX6_init_122 : decode cX6_init 122 = .ok (.i2l, 1) := by decide +kernel
theorem dX6_init_123 : decode cX6_init 123 = .ok (.ladd, 1) := by decide +kernel
theorem dX6_init_124 : decode cX6_init 124 = .ok (.ldc2_w 64, 3) := by decide +kernel
theorem dX6_init_127 : decode cX6_init 127 = .ok (.lsub, 1) := by decide +kernel
theorem dX6_init_128 : decode cX6_init 128 = .ok (.lconst 1, 1) := by decide +kernel
theorem dX6_init_129 : decode cX6_init 129 = .ok (.ladd, 1) := by decide +kernel
theorem dX6_init_130 : decode cX6_init 130 = .ok (.lastore, 1) := by decide +kernel
theorem dX6_init_131 : decode cX6_init 131 = .ok (.iinc 1 1, 3) := by decide +kernel
theorem dX6_init_134 : decode cX6_init 134 = .ok (.goto (-61), 3) := by decide +kernel
theorem dX6_init_137 : decode cX6_init 137 = .ok (.return_, 1) := by decide +kernel
theorem dX6_hasRoom_0 : decode cX6_hasRoom 0 = .ok (.aload_n 0, 1) := by decide +kernel
theorem dX6_hasRoom_1 : decode cX6_hasRoom 1 = .ok (.getfield 15, 3) := by decide +kernel
theorem dX6_hasRoom_4 : decode cX6_hasRoom 4 = .ok (.bipush 20, 2) := by decide +kernel
theorem dX6_hasRoom_6 : decode cX6_hasRoom 6 = .ok (.iadd, 1) := by decide +kernel
theorem dX6_hasRoom_7 : decode cX6_hasRoom 7 = .ok (.sipush 940, 3) := by decide +kernel
theorem dX6_hasRoom_10 : decode cX6_hasRoom 10 = .ok (.if_icmp .gt 7, 3) := by decide +kernel
theorem dX6_hasRoom_13 : decode cX6_hasRoom 13 = .ok (.iconst 1, 1) := by decide +kernel
theorem dX6_hasRoom_14 : decode cX6_hasRoom 14 = .ok (.goto 4, 3) := by decide +kernel
theorem dX6_hasRoom_17 : decode cX6_hasRoom 17 = .ok (.iconst 0, 1) := by decide +kernel
theorem dX6_hasRoom_18 : decode cX6_hasRoom 18 = .ok (.ireturn, 1) := by decide +kernel
theorem dX6_append_0 : decode cX6_append 0 = .ok (.bipush 24, 2) := by decide +kernel
theorem dX6_append_2 : decode cX6_append 2 = .ok (.istore_n 2, 1) := by decide +kernel
theorem dX6_append_3 : decode cX6_append 3 = .ok (.iload_n 2, 1) := by decide +kernel
theorem dX6_append_4 : decode cX6_append 4 = .ok (.ifCond .lt 42, 3) := by decide +kernel
theorem dX6_append_7 : decode cX6_append 7 = .ok (.aload_n 0, 1) := by decide +kernel
theorem dX6_append_8 : decode cX6_append 8 = .ok (.getfield 15, 3) := by decide +kernel
theorem dX6_append_11 : decode cX6_append 11 = .ok (.sipush 940, 3) := by decide +kernel
theorem dX6_append_14 : decode cX6_append 14 = .ok (.if_icmp .ge 32, 3) := by decide +kernel
theorem dX6_append_17 : decode cX6_append 17 = .ok (.aload_n 0, 1) := by decide +kernel
theorem dX6_append_18 : decode cX6_append 18 = .ok (.getfield 11, 3) := by decide +kernel
theorem dX6_append_21 : decode cX6_append 21 = .ok (.aload_n 0, 1) := by decide +kernel
theorem dX6_append_22 : decode cX6_append 22 = .ok (.getfield 15, 3) := by decide +kernel
theorem dX6_append_25 : decode cX6_append 25 = .ok (.iload_n 1, 1) := by decide +kernel
theorem dX6_append_26 : decode cX6_append 26 = .ok (.iload_n 2, 1) := by decide +kernel
theorem dX6_append_27 : decode cX6_append 27 = .ok (.iushr, 1) := by decide +kernel
theorem dX6_append_28 : decode cX6_append 28 = .ok (.i2b, 1) := by decide +kernel
theorem dX6_append_29 : decode cX6_append 29 = .ok (.bastore, 1) := by decide +kernel
theorem dX6_append_30 : decode cX6_append 30 = .ok (.aload_n 0, 1) := by decide +kernel
theorem dX6_append_31 : decode cX6_append 31 = .ok (.dup, 1) := by decide +kernel
theorem dX6_append_32 : decode cX6_append 32 = .ok (.getfield 15, 3) := by decide +kernel
theorem dX6_append_35 : decode cX6_append 35 = .ok (.iconst 1, 1) := by decide +kernel
theorem dX6_append_36 : decode cX6_append 36 = .ok (.iadd, 1) := by decide +kernel
theorem dX6_append_37 : decode cX6_append 37 = .ok (.putfield 15, 3) := by decide +kernel
theorem dX6_append_40 : decode cX6_append 40 = .ok (.iinc 2 (-8), 3) := by decide +kernel
theorem dX6_append_43 : decode cX6_append 43 = .ok (.goto (-40), 3) := by decide +kernel
theorem dX6_append_46 : decode cX6_append 46 = .ok (.return_, 1) := by decide +kernel
theorem dX6_byteAt_0 : decode cX6_byteAt 0 = .ok (.iload_n 1, 1) := by decide +kernel
theorem dX6_byteAt_1 : decode cX6_byteAt 1 = .ok (.ifCond .lt 23, 3) := by decide +kernel
theorem dX6_byteAt_4 : decode cX6_byteAt 4 = .ok (.iload_n 1, 1) := by decide +kernel
theorem dX6_byteAt_5 : decode cX6_byteAt 5 = .ok (.sipush 940, 3) := by decide +kernel
theorem dX6_byteAt_8 : decode cX6_byteAt 8 = .ok (.if_icmp .ge 16, 3) := by decide +kernel
theorem dX6_byteAt_11 : decode cX6_byteAt 11 = .ok (.aload_n 0, 1) := by decide +kernel
theorem dX6_byteAt_12 : decode cX6_byteAt 12 = .ok (.getfield 11, 3) := by decide +kernel
theorem dX6_byteAt_15 : decode cX6_byteAt 15 = .ok (.iload_n 1, 1) := by decide +kernel
theorem dX6_byteAt_16 : decode cX6_byteAt 16 = .ok (.baload, 1) := by decide +kernel
theorem dX6_byteAt_17 : decode cX6_byteAt 17 = .ok (.sipush 255, 3) := by decide +kernel
theorem dX6_byteAt_20 : decode cX6_byteAt 20 = .ok (.iand, 1) := by decide +kernel
theorem dX6_byteAt_21 : decode cX6_byteAt 21 = .ok (.goto 4, 3) := by decide +kernel
theorem dX6_byteAt_24 : decode cX6_byteAt 24 = .ok (.iconst 0, 1) := by decide +kernel
theorem dX6_byteAt_25 : decode cX6_byteAt 25 = .ok (.ireturn, 1) := by decide +kernel
theorem dX6_open_0 : decode cX6_open 0 = .ok (.aload_n 0, 1) := by decide +kernel
theorem dX6_open_1 : decode cX6_open 1 = .ok (.iload_n 1, 1) := by decide +kernel
theorem dX6_open_2 : decode cX6_open 2 = .ok (.putfield 48, 3) := by decide +kernel
theorem dX6_open_5 : decode cX6_open 5 = .ok (.aload_n 0, 1) := by decide +kernel
theorem dX6_open_6 : decode cX6_open 6 = .ok (.iconst 0, 1) := by decide +kernel
theorem dX6_open_7 : decode cX6_open 7 = .ok (.putfield 45, 3) := by decide +kernel
theorem dX6_open_10 : decode cX6_open 10 = .ok (.aload_n 0, 1) := by decide +kernel
theorem dX6_open_11 : decode cX6_open 11 = .ok (.invokevirtual 66, 3) := by decide +kernel
theorem dX6_open_14 : decode cX6_open 14 = .ok (.return_, 1) := by decide +kernel
theorem dX6_advance_0 : decode cX6_advance 0 = .ok (.aload_n 0, 1) := by decide +kernel
theorem dX6_advance_1 : decode cX6_advance 1 = .ok (.getfield 45, 3) := by decide +kernel
theorem dX6_advance_4 : decode cX6_advance 4 = .ok (.aload_n 0, 1) := by decide +kernel
theorem dX6_advance_5 : decode cX6_advance 5 = .ok (.getfield 15, 3) := by decide +kernel
theorem dX6_advance_8 : decode cX6_advance 8 = .ok (.if_icmp .ge 44, 3) := by decide +kernel
theorem dX6_advance_11 : decode cX6_advance 11 = .ok (.aload_n 0, 1) := by decide +kernel
theorem dX6_advance_12 : decode cX6_advance 12 = .ok (.getfield 11, 3) := by decide +kernel
theorem dX6_advance_15 : decode cX6_advance 15 = .ok (.aload_n 0, 1) := by decide +kernel
theorem dX6_advance_16 : decode cX6_advance 16 = .ok (.getfield 45, 3) := by decide +kernel
theorem dX6_advance_19 : decode cX6_advance 19 = .ok (.baload, 1) := by decide +kernel
theorem dX6_advance_20 : decode cX6_advance 20 = .ok (.bipush 32, 2) := by decide +kernel
theorem dX6_advance_22 : decode cX6_advance 22 = .ok (.if_icmp .eq 17, 3) := by decide +kernel
theorem dX6_advance_25 : decode cX6_advance 25 = .ok (.aload_n 0, 1) := by decide +kernel
theorem dX6_advance_26 : decode cX6_advance 26 = .ok (.getfield 11, 3) := by decide +kernel
theorem dX6_advance_29 : decode cX6_advance 29 = .ok (.aload_n 0, 1) := by decide +kernel
theorem dX6_advance_30 : decode cX6_advance 30 = .ok (.getfield 45, 3) := by decide +kernel
theorem dX6_advance_33 : decode cX6_advance 33 = .ok (.baload, 1) := by decide +kernel
theorem dX6_advance_34 : decode cX6_advance 34 = .ok (.bipush 10, 2) := by decide +kernel
theorem dX6_advance_36 : decode cX6_advance 36 = .ok (.if_icmp .ne 16, 3) := by decide +kernel
theorem dX6_advance_39 : decode cX6_advance 39 = .ok (.aload_n 0, 1) := by decide +kernel
theorem dX6_advance_40 : decode cX6_advance 40 = .ok (.dup, 1) := by decide +kernel
theorem dX6_advance_41 : decode cX6_advance 41 = .ok (.getfield 45, 3) := by decide +kernel
theorem dX6_advance_44 : decode cX6_advance 44 = .ok (.iconst 1, 1) := by decide +kernel
theorem dX6_advance_45 : decode cX6_advance 45 = .ok (.iadd, 1) := by decide +kernel
theorem dX6_advance_46 : decode cX6_advance 46 = .ok (.putfield 45, 3) := by decide +kernel
theorem dX6_advance_49 : decode cX6_advance 49 = .ok (.goto (-49), 3) := by decide +kernel
theorem dX6_advance_52 : decode cX6_advance 52 = .ok (.aload_n 0, 1) := by decide +kernel
theorem dX6_advance_53 : decode cX6_advance 53 = .ok (.aload_n 0, 1) := by decide +kernel
theorem dX6_advance_54 : decode cX6_advance 54 = .ok (.getfield 45, 3) := by decide +kernel
theorem dX6_advance_57 : decode cX6_advance 57 = .ok (.putfield 22, 3) := by decide +kernel
theorem dX6_advance_60 : decode cX6_advance 60 = .ok (.aload_n 0, 1) := by decide +kernel
theorem dX6_advance_61 : decode cX6_advance 61 = .ok (.getfield 15, 3) := by decide +kernel
theorem dX6_advance_64 : decode cX6_advance 64 = .ok (.aload_n 0, 1) := by decide +kernel
theorem dX6_advance_65 : decode cX6_advance 65 = .ok (.getfield 48, 3) := by decide +kernel
theorem dX6_advance_68 : decode cX6_advance 68 = .ok (.if_icmp .le 30, 3) := by decide +kernel
theorem dX6_advance_71 : decode cX6_advance 71 = .ok (.aload_n 0, 1) := by decide +kernel
theorem dX6_advance_72 : decode cX6_advance 72 = .ok (.getfield 45, 3) := by decide +kernel
theorem dX6_advance_75 : decode cX6_advance 75 = .ok (.aload_n 0, 1) := by decide +kernel
theorem dX6_advance_76 : decode cX6_advance 76 = .ok (.getfield 48, 3) := by decide +kernel
theorem dX6_advance_79 : decode cX6_advance 79 = .ok (.if_icmp .lt 19, 3) := by decide +kernel
theorem dX6_advance_82 : decode cX6_advance 82 = .ok (.aload_n 0, 1) := by decide +kernel
theorem dX6_advance_83 : decode cX6_advance 83 = .ok (.aload_n 0, 1) := by decide +kernel
theorem dX6_advance_84 : decode cX6_advance 84 = .ok (.getfield 48, 3) := by decide +kernel
theorem dX6_advance_87 : decode cX6_advance 87 = .ok (.putfield 22, 3) := by decide +kernel
theorem dX6_advance_90 : decode cX6_advance 90 = .ok (.aload_n 0, 1) := by decide +kernel
theorem dX6_advance_91 : decode cX6_advance 91 = .ok (.iconst 1, 1) := by decide +kernel
theorem dX6_advance_92 : decode cX6_advance 92 = .ok (.putfield 19, 3) := by decide +kernel
theorem dX6_advance_95 : decode cX6_advance 95 = .ok (.goto 94, 3) := by decide +kernel
theorem dX6_advance_98 : decode cX6_advance 98 = .ok (.aload_n 0, 1) := by decide +kernel
theorem dX6_advance_99 : decode cX6_advance 99 = .ok (.getfield 45, 3) := by decide +kernel
theorem dX6_advance_102 : decode cX6_advance 102 = .ok (.aload_n 0, 1) := by decide +kernel
theorem dX6_advance_103 : decode cX6_advance 103 = .ok (.getfield 15, 3) := by decide +kernel
theorem dX6_advance_106 : decode cX6_advance 106 = .ok (.if_icmp .lt 11, 3) := by decide +kernel
theorem dX6_advance_109 : decode cX6_advance 109 = .ok (.aload_n 0, 1) := by decide +kernel
theorem dX6_advance_110 : decode cX6_advance 110 = .ok (.iconst 0, 1) := by decide +kernel
theorem dX6_advance_111 : decode cX6_advance 111 = .ok (.putfield 19, 3) := by decide +kernel
theorem dX6_advance_114 : decode cX6_advance 114 = .ok (.goto 75, 3) := by decide +kernel
theorem dX6_advance_117 : decode cX6_advance 117 = .ok (.aload_n 0, 1) := by decide +kernel
theorem dX6_advance_118 : decode cX6_advance 118 = .ok (.getfield 11, 3) := by decide +kernel
theorem dX6_advance_121 : decode cX6_advance 121 = .ok (.aload_n 0, 1) := by decide +kernel
theorem dX6_advance_122 : decode cX6_advance 122 = .ok (.getfield 45, 3) := by decide +kernel
theorem dX6_advance_125 : decode cX6_advance 125 = .ok (.baload, 1) := by decide +kernel
theorem dX6_advance_126 : decode cX6_advance 126 = .ok (.invokestatic 69, 3) := by decide +kernel
theorem dX6_advance_129 : decode cX6_advance 129 = .ok (.ifCond .eq 29, 3) := by decide +kernel
theorem dX6_advance_132 : decode cX6_advance 132 = .ok (.aload_n 0, 1) := by decide +kernel
theorem dX6_advance_133 : decode cX6_advance 133 = .ok (.aload_n 0, 1) := by decide +kernel
theorem dX6_advance_134 : decode cX6_advance 134 = .ok (.getfield 11, 3) := by decide +kernel
theorem dX6_advance_137 : decode cX6_advance 137 = .ok (.aload_n 0, 1) := by decide +kernel
theorem dX6_advance_138 : decode cX6_advance 138 = .ok (.getfield 45, 3) := by decide +kernel
theorem dX6_advance_141 : decode cX6_advance 141 = .ok (.baload, 1) := by decide +kernel
theorem dX6_advance_142 : decode cX6_advance 142 = .ok (.putfield 19, 3) := by decide +kernel
theorem dX6_advance_145 : decode cX6_advance 145 = .ok (.aload_n 0, 1) := by decide +kernel
theorem dX6_advance_146 : decode cX6_advance 146 = .ok (.dup, 1) := by decide +kernel
theorem dX6_advance_147 : decode cX6_advance 147 = .ok (.getfield 45, 3) := by decide +kernel
theorem dX6_advance_150 : decode cX6_advance 150 = .ok (.iconst 1, 1) := by decide +kernel
theorem dX6_advance_151 : decode cX6_advance 151 = .ok (.iadd, 1) := by decide +kernel
theorem dX6_advance_152 : decode cX6_advance 152 = .ok (.putfield 45, 3) := by decide +kernel
theorem dX6_advance_155 : decode cX6_advance 155 = .ok (.goto 34, 3) := by decide +kernel
theorem dX6_advance_158 : decode cX6_advance 158 = .ok (.aload_n 0, 1) := by decide +kernel
theorem dX6_advance_159 : decode cX6_advance 159 = .ok (.invokevirtual 73, 3) := by decide +kernel
theorem dX6_advance_162 : decode cX6_advance 162 = .ok (.aload_n 0, 1) := by decide +kernel
theorem dX6_advance_163 : decode cX6_advance 163 = .ok (.aload_n 0, 1) := by decide +kernel
theorem dX6_advance_164 : decode cX6_advance 164 = .ok (.getfield 19, 3) := by decide +kernel
theorem dX6_advance_167 : decode cX6_advance 167 = .ok (.iconst 2, 1) := by decide +kernel
theorem dX6_advance_168 : decode cX6_advance 168 = .ok (.if_icmp .ne 14, 3) := by decide +kernel
theorem dX6_advance_171 : decode cX6_advance 171 = .ok (.aload_n 0, 1) := by decide +kernel
theorem dX6_advance_172 : decode cX6_advance 172 = .ok (.aload_n 0, 1) := by decide +kernel
theorem dX6_advance_173 : decode cX6_advance 173 = .ok (.getfield 28, 3) := by decide +kernel
theorem dX6_advance_176 : decode cX6_advance 176 = .ok (.invokevirtual 76, 3) := by decide +kernel
theorem dX6_advance_179 : decode cX6_advance 179 = .ok (.goto 7, 3) := by decide +kernel
theorem dX6_advance_182 : decode cX6_advance 182 = .ok (.aload_n 0, 1) := by decide +kernel
theorem dX6_advance_183 : decode cX6_advance 183 = .ok (.getfield 25, 3) := by decide +kernel
theorem dX6_advance_186 : decode cX6_advance 186 = .ok (.putfield 25, 3) := by decide +kernel
theorem dX6_advance_189 : decode cX6_advance 189 = .ok (.return_, 1) := by decide +kernel
theorem dX6_readRow_0 : decode cX6_readRow 0 = .ok (.iconst 0, 1) := by decide +kernel
theorem dX6_readRow_1 : decode cX6_readRow 1 = .ok (.istore_n 1, 1) := by decide +kernel
theorem dX6_readRow_2 : decode cX6_readRow 2 = .ok (.iconst 0, 1) := by decide +kernel
theorem dX6_readRow_3 : decode cX6_readRow 3 = .ok (.istore_n 2, 1) := by decide +kernel
theorem dX6_readRow_4 : decode cX6_readRow 4 = .ok (.aload_n 0, 1) := by decide +kernel
theorem dX6_readRow_5 : decode cX6_readRow 5 = .ok (.iconst 0, 1) := by decide +kernel
theorem dX6_readRow_6 : decode cX6_readRow 6 = .ok (.putfield 25, 3) := by decide +kernel
theorem dX6_readRow_9 : decode cX6_readRow 9 = .ok (.aload_n 0, 1) := by decide +kernel
theorem dX6_readRow_10 : decode cX6_readRow 10 = .ok (.lconst 0, 1) := by decide +kernel
theorem dX6_readRow_11 : decode cX6_readRow 11 = .ok (.putfield 28, 3) := by decide +kernel
theorem dX6_readRow_14 : decode cX6_readRow 14 = .ok (.aload_n 0, 1) := by decide +kernel
theorem dX6_readRow_15 : decode cX6_readRow 15 = .ok (.getfield 45, 3) := by decide +kernel
theorem dX6_readRow_18 : decode cX6_readRow 18 = .ok (.aload_n 0, 1) := by decide +kernel
theorem dX6_readRow_19 : decode cX6_readRow 19 = .ok (.getfield 15, 3) := by decide +kernel
theorem dX6_readRow_22 : decode cX6_readRow 22 = .ok (.if_icmp .ge 96, 3) := by decide +kernel
theorem dX6_readRow_25 : decode cX6_readRow 25 = .ok (.aload_n 0, 1) := by decide +kernel
theorem dX6_readRow_26 : decode cX6_readRow 26 = .ok (.getfield 11, 3) := by decide +kernel
theorem dX6_readRow_29 : decode cX6_readRow 29 = .ok (.aload_n 0, 1) := by decide +kernel
theorem dX6_readRow_30 : decode cX6_readRow 30 = .ok (.getfield 45, 3) := by decide +kernel
theorem dX6_readRow_33 : decode cX6_readRow 33 = .ok (.baload, 1) := by decide +kernel
theorem dX6_readRow_34 : decode cX6_readRow 34 = .ok (.istore_n 3, 1) := by decide +kernel
theorem dX6_readRow_35 : decode cX6_readRow 35 = .ok (.iload_n 3, 1) := by decide +kernel
theorem dX6_readRow_36 : decode cX6_readRow 36 = .ok (.bipush 97, 2) := by decide +kernel
theorem dX6_readRow_38 : decode cX6_readRow 38 = .ok (.if_icmp .lt 36, 3) := by decide +kernel
theorem dX6_readRow_41 : decode cX6_readRow 41 = .ok (.iload_n 3, 1) := by decide +kernel
theorem dX6_readRow_42 : decode cX6_readRow 42 = .ok (.bipush 122, 2) := by decide +kernel
theorem dX6_readRow_44 : decode cX6_readRow 44 = .ok (.if_icmp .gt 30, 3) := by decide +kernel
theorem dX6_readRow_47 : decode cX6_readRow 47 = .ok (.iinc 1 1, 3) := by decide +kernel
theorem dX6_readRow_50 : decode cX6_readRow 50 = .ok (.aload_n 0, 1) := by decide +kernel
theorem dX6_readRow_51 : decode cX6_readRow 51 = .ok (.aload_n 0, 1) := by decide +kernel
theorem dX6_readRow_52 : decode cX6_readRow 52 = .ok (.getfield 28, 3) := by decide +kernel
theorem dX6_readRow_55 : decode cX6_readRow 55 = .ok (.ldc2_w 62, 3) := by decide +kernel
theorem dX6_readRow_58 : decode cX6_readRow 58 = .ok (.lmul, 1) := by decide +kernel
theorem dX6_readRow_59 : decode cX6_readRow 59 = .ok (.iload_n 3, 1) := by decide +kernel
theorem dX6_readRow_60 : decode cX6_readRow 60 = .ok (.i2l, 1) := by decide +kernel
theorem dX6_readRow_61 : decode cX6_readRow 61 = .ok (.ladd, 1) := by decide +kernel
theorem dX6_readRow_62 : decode cX6_readRow 62 = .ok (.ldc2_w 64, 3) := by decide +kernel
theorem dX6_readRow_65 : decode cX6_readRow 65 = .ok (.lsub, 1) := by decide +kernel
theorem dX6_readRow_66 : decode cX6_readRow 66 = .ok (.lconst 1, 1) := by decide +kernel
theorem dX6_readRow_67 : decode cX6_readRow 67 = .ok (.ladd, 1) := by decide +kernel
theorem dX6_readRow_68 : decode cX6_readRow 68 = .ok (.putfield 28, 3) := by decide +kernel
theorem dX6_readRow_71 : decode cX6_readRow 71 = .ok (.goto 34, 3) := by decide +kernel
theorem dX6_readRow_74 : decode cX6_readRow 74 = .ok (.iload_n 3, 1) := by decide +kernel
theorem dX6_readRow_75 : decode cX6_readRow 75 = .ok (.bipush 48, 2) := by decide +kernel
theorem dX6_readRow_77 : decode cX6_readRow 77 = .ok (.if_icmp .lt 41, 3) := by decide +kernel
theorem dX6_readRow_80 : decode cX6_readRow 80 = .ok (.iload_n 3, 1) := by decide +kernel
theorem dX6_readRow_81 : decode cX6_readRow 81 = .ok (.bipush 57, 2) := by decide +kernel
theorem dX6_readRow_83 : decode cX6_readRow 83 = .ok (.if_icmp .gt 35, 3) := by decide +kernel
theorem dX6_readRow_86 : decode cX6_readRow 86 = .ok (.iinc 2 1, 3) := by decide +kernel
theorem dX6_readRow_89 : decode cX6_readRow 89 = .ok (.aload_n 0, 1) := by decide +kernel
theorem dX6_readRow_90 : decode cX6_readRow 90 = .ok (.aload_n 0, 1) := by decide +kernel
theorem dX6_readRow_91 : decode cX6_readRow 91 = .ok (.getfield 25, 3) := by decide +kernel
theorem dX6_readRow_94 : decode cX6_readRow 94 = .ok (.bipush 10, 2) := by decide +kernel
theorem dX6_readRow_96 : decode cX6_readRow 96 = .ok (.imul, 1) := by decide +kernel
theorem dX6_readRow_97 : decode cX6_readRow 97 = .ok (.iload_n 3, 1) := by decide +kernel
theorem dX6_readRow_98 : decode cX6_readRow 98 = .ok (.iadd, 1) := by decide +kernel
theorem dX6_readRow_99 : decode cX6_readRow 99 = .ok (.bipush 48, 2) := by decide +kernel
theorem dX6_readRow_101 : decode cX6_readRow 101 = .ok (.isub, 1) := by decide +kernel
theorem dX6_readRow_102 : decode cX6_readRow 102 = .ok (.putfield 25, 3) := by decide +kernel
theorem dX6_readRow_105 : decode cX6_readRow 105 = .ok (.aload_n 0, 1) := by decide +kernel
theorem dX6_readRow_106 : decode cX6_readRow 106 = .ok (.dup, 1) := by decide +kernel
theorem dX6_readRow_107 : decode cX6_readRow 107 = .ok (.getfield 45, 3) := by decide +kernel
theorem dX6_readRow_110 : decode cX6_readRow 110 = .ok (.iconst 1, 1) := by decide +kernel
theorem dX6_readRow_111 : decode cX6_readRow 111 = .ok (.iadd, 1) := by decide +kernel
theorem dX6_readRow_112 : decode cX6_readRow 112 = .ok (.putfield 45, 3) := by decide +kernel
theorem dX6_readRow_115 : decode cX6_readRow 115 = .ok (.goto (-101), 3) := by decide +kernel
theorem dX6_readRow_118 : decode cX6_readRow 118 = .ok (.aload_n 0, 1) := by decide +kernel
theorem dX6_readRow_119 : decode cX6_readRow 119 = .ok (.iconst 1, 1) := by decide +kernel
theorem dX6_readRow_120 : decode cX6_readRow 120 = .ok (.putfield 19, 3) := by decide +kernel
theorem dX6_readRow_123 : decode cX6_readRow 123 = .ok (.iload_n 2, 1) := by decide +kernel
theorem dX6_readRow_124 : decode cX6_readRow 124 = .ok (.ifCond .ne 21, 3) := by decide +kernel
theorem dX6_readRow_127 : decode cX6_readRow 127 = .ok (.iload_n 1, 1) := by decide +kernel
theorem dX6_readRow_128 : decode cX6_readRow 128 = .ok (.ifCond .le 17, 3) := by decide +kernel
theorem dX6_readRow_131 : decode cX6_readRow 131 = .ok (.iload_n 1, 1) := by decide +kernel
theorem dX6_readRow_132 : decode cX6_readRow 132 = .ok (.bipush 7, 2) := by decide +kernel
theorem dX6_readRow_134 : decode cX6_readRow 134 = .ok (.if_icmp .gt 11, 3) := by decide +kernel
theorem dX6_readRow_137 : decode cX6_readRow 137 = .ok (.aload_n 0, 1) := by decide +kernel
theorem dX6_readRow_138 : decode cX6_readRow 138 = .ok (.iconst 2, 1) := by decide +kernel
theorem dX6_readRow_139 : decode cX6_readRow 139 = .ok (.putfield 19, 3) := by decide +kernel
theorem dX6_readRow_142 : decode cX6_readRow 142 = .ok (.goto 21, 3) := by decide +kernel
theorem dX6_readRow_145 : decode cX6_readRow 145 = .ok (.iload_n 1, 1) := by decide +kernel
theorem dX6_readRow_146 : decode cX6_readRow 146 = .ok (.ifCond .ne 17, 3) := by decide +kernel
theorem dX6_readRow_149 : decode cX6_readRow 149 = .ok (.iload_n 2, 1) := by decide +kernel
theorem dX6_readRow_150 : decode cX6_readRow 150 = .ok (.ifCond .le 13, 3) := by decide +kernel
theorem dX6_readRow_153 : decode cX6_readRow 153 = .ok (.iload_n 2, 1) := by decide +kernel
theorem dX6_readRow_154 : decode cX6_readRow 154 = .ok (.iconst 3, 1) := by decide +kernel
theorem dX6_readRow_155 : decode cX6_readRow 155 = .ok (.if_icmp .gt 8, 3) := by decide +kernel
theorem dX6_readRow_158 : decode cX6_readRow 158 = .ok (.aload_n 0, 1) := by decide +kernel
theorem dX6_readRow_159 : decode cX6_readRow 159 = .ok (.iconst 3, 1) := by decide +kernel
theorem dX6_readRow_160 : decode cX6_readRow 160 = .ok (.putfield 19, 3) := by decide +kernel
theorem dX6_readRow_163 : decode cX6_readRow 163 = .ok (.return_, 1) := by decide +kernel
theorem dX6_wordNamed_0 : decode cX6_wordNamed 0 = .ok (.iconst 0, 1) := by decide +kernel
theorem dX6_wordNamed_1 : decode cX6_wordNamed 1 = .ok (.istore_n 3, 1) := by decide +kernel
theorem dX6_wordNamed_2 : decode cX6_wordNamed 2 = .ok (.iload_n 3, 1) := by decide +kernel
theorem dX6_wordNamed_3 : decode cX6_wordNamed 3 = .ok (.bipush 23, 2) := by decide +kernel
theorem dX6_wordNamed_5 : decode cX6_wordNamed 5 = .ok (.if_icmp .ge 22, 3) := by decide +kernel
theorem dX6_wordNamed_8 : decode cX6_wordNamed 8 = .ok (.aload_n 0, 1) := by decide +kernel
theorem dX6_wordNamed_9 : decode cX6_wordNamed 9 = .ok (.getfield 41, 3) := by decide +kernel
theorem dX6_wordNamed_12 : decode cX6_wordNamed 12 = .ok (.iload_n 3, 1) := by decide +kernel
theorem dX6_wordNamed_13 : decode cX6_wordNamed 13 = .ok (.laload, 1) := by decide +kernel
theorem dX6_wordNamed_14 : decode cX6_wordNamed 14 = .ok (.lload_n 1, 1) := by decide +kernel
theorem dX6_wordNamed_15 : decode cX6_wordNamed 15 = .ok (.lcmp, 1) := by decide +kernel
theorem dX6_wordNamed_16 : decode cX6_wordNamed 16 = .ok (.ifCond .ne 5, 3) := by decide +kernel
theorem dX6_wordNamed_19 : decode cX6_wordNamed 19 = .ok (.iload_n 3, 1) := by decide +kernel
theorem dX6_wordNamed_20 : decode cX6_wordNamed 20 = .ok (.ireturn, 1) := by decide +kernel
theorem dX6_wordNamed_21 : decode cX6_wordNamed 21 = .ok (.iinc 3 1, 3) := by decide +kernel
theorem dX6_wordNamed_24 : decode cX6_wordNamed 24 = .ok (.goto (-22), 3) := by decide +kernel
theorem dX6_wordNamed_27 : decode cX6_wordNamed 27 = .ok (.iconst (-1), 1) := by decide +kernel
theorem dX6_wordNamed_28 : decode cX6_wordNamed 28 = .ok (.ireturn, 1) := by decide +kernel
theorem dX6_isSign_0 : decode cX6_isSign 0 = .ok (.iload_n 0, 1) := by decide +kernel
theorem dX6_isSign_1 : decode cX6_isSign 1 = .ok (.bipush 59, 2) := by decide +kernel
theorem dX6_isSign_3 : decode cX6_isSign 3 = .ok (.if_icmp .eq 33, 3) := by decide +kernel
theorem dX6_isSign_6 : decode cX6_isSign 6 = .ok (.iload_n 0, 1) := by decide +kernel
theorem dX6_isSign_7 : decode cX6_isSign 7 = .ok (.bipush 60, 2) := by decide +kernel
theorem dX6_isSign_9 : decode cX6_isSign 9 = .ok (.if_icmp .eq 27, 3) := by decide +kernel
theorem dX6_isSign_12 : decode cX6_isSign 12 = .ok (.iload_n 0, 1) := by decide +kernel
theorem dX6_isSign_13 : decode cX6_isSign 13 = .ok (.bipush 61, 2) := by decide +kernel
theorem dX6_isSign_15 : decode cX6_isSign 15 = .ok (.if_icmp .eq 21, 3) := by decide +kernel
theorem dX6_isSign_18 : decode cX6_isSign 18 = .ok (.iload_n 0, 1) := by decide +kernel
theorem dX6_isSign_19 : decode cX6_isSign 19 = .ok (.bipush 62, 2) := by decide +kernel
theorem dX6_isSign_21 : decode cX6_isSign 21 = .ok (.if_icmp .eq 15, 3) := by decide +kernel
theorem dX6_isSign_24 : decode cX6_isSign 24 = .ok (.iload_n 0, 1) := by decide +kernel
theorem dX6_isSign_25 : decode cX6_isSign 25 = .ok (.bipush 40, 2) := by decide +kernel
theorem dX6_isSign_27 : decode cX6_isSign 27 = .ok (.if_icmp .eq 9, 3) := by decide +kernel
theorem dX6_isSign_30 : decode cX6_isSign 30 = .ok (.iload_n 0, 1) := by decide +kernel
theorem dX6_isSign_31 : decode cX6_isSign 31 = .ok (.bipush 41, 2) := by decide +kernel
theorem dX6_isSign_33 : decode cX6_isSign 33 = .ok (.if_icmp .ne 7, 3) := by decide +kernel
theorem dX6_isSign_36 : decode cX6_isSign 36 = .ok (.iconst 1, 1) := by decide +kernel
theorem dX6_isSign_37 : decode cX6_isSign 37 = .ok (.goto 4, 3) := by decide +kernel
theorem dX6_isSign_40 : decode cX6_isSign 40 = .ok (.iconst 0, 1) := by decide +kernel
theorem dX6_isSign_41 : decode cX6_isSign 41 = .ok (.ireturn, 1) := by decide +kernel
theorem dX6_fail_0 : decode cX6_fail 0 = .ok (.aload_n 0, 1) := by decide +kernel
theorem dX6_fail_1 : decode cX6_fail 1 = .ok (.iload_n 1, 1) := by decide +kernel
theorem dX6_fail_2 : decode cX6_fail 2 = .ok (.putfield 35, 3) := by decide +kernel
theorem dX6_fail_5 : decode cX6_fail 5 = .ok (.aload_n 0, 1) := by decide +kernel
theorem dX6_fail_6 : decode cX6_fail 6 = .ok (.aload_n 0, 1) := by decide +kernel
theorem dX6_fail_7 : decode cX6_fail 7 = .ok (.getfield 22, 3) := by decide +kernel
theorem dX6_fail_10 : decode cX6_fail 10 = .ok (.putfield 38, 3) := by decide +kernel
theorem dX6_fail_13 : decode cX6_fail 13 = .ok (.iconst 0, 1) := by decide +kernel
theorem dX6_fail_14 : decode cX6_fail 14 = .ok (.ireturn, 1) := by decide +kernel
theorem dX6_wordHere_0 : decode cX6_wordHere 0 = .ok (.aload_n 0, 1) := by decide +kernel
theorem dX6_wordHere_1 : decode cX6_wordHere 1 = .ok (.getfield 19, 3) := by decide +kernel
theorem dX6_wordHere_4 : decode cX6_wordHere 4 = .ok (.iconst 2, 1) := by decide +kernel
theorem dX6_wordHere_5 : decode cX6_wordHere 5 = .ok (.if_icmp .ne 10, 3) := by decide +kernel
theorem dX6_wordHere_8 : decode cX6_wordHere 8 = .ok (.aload_n 0, 1) := by decide +kernel
theorem dX6_wordHere_9 : decode cX6_wordHere 9 = .ok (.getfield 25, 3) := by decide +kernel
theorem dX6_wordHere_12 : decode cX6_wordHere 12 = .ok (.goto 4, 3) := by decide +kernel
theorem dX6_wordHere_15 : decode cX6_wordHere 15 = .ok (.iconst (-1), 1) := by decide +kernel
theorem dX6_wordHere_16 : decode cX6_wordHere 16 = .ok (.ireturn, 1) := by decide +kernel
theorem dX6_isName_0 : decode cX6_isName 0 = .ok (.aload_n 0, 1) := by decide +kernel
theorem dX6_isName_1 : decode cX6_isName 1 = .ok (.getfield 19, 3) := by decide +kernel
theorem dX6_isName_4 : decode cX6_isName 4 = .ok (.iconst 2, 1) := by decide +kernel
theorem dX6_isName_5 : decode cX6_isName 5 = .ok (.if_icmp .ne 15, 3) := by decide +kernel
theorem dX6_isName_8 : decode cX6_isName 8 = .ok (.aload_n 0, 1) := by decide +kernel
theorem dX6_isName_9 : decode cX6_isName 9 = .ok (.getfield 25, 3) := by decide +kernel
theorem dX6_isName_12 : decode cX6_isName 12 = .ok (.iconst (-1), 1) := by decide +kernel
theorem dX6_isName_13 : decode cX6_isName 13 = .ok (.if_icmp .ne 7, 3) := by decide +kernel
theorem dX6_isName_16 : decode cX6_isName 16 = .ok (.iconst 1, 1) := by decide +kernel
theorem dX6_isName_17 : decode cX6_isName 17 = .ok (.goto 4, 3) := by decide +kernel
theorem dX6_isName_20 : decode cX6_isName 20 = .ok (.iconst 0, 1) := by decide +kernel
theorem dX6_isName_21 : decode cX6_isName 21 = .ok (.ireturn, 1) := by decide +kernel
theorem dX6_isNumberOf_0 : decode cX6_isNumberOf 0 = .ok (.aload_n 0, 1) := by decide +kernel
theorem dX6_isNumberOf_1 : decode cX6_isNumberOf 1 = .ok (.getfield 19, 3) := by decide +kernel
theorem dX6_isNumberOf_4 : decode cX6_isNumberOf 4 = .ok (.iconst 3, 1) := by decide +kernel
theorem dX6_isNumberOf_5 : decode cX6_isNumberOf 5 = .ok (.if_icmp .ne 28, 3) := by decide +kernel
theorem dX6_isNumberOf_8 : decode cX6_isNumberOf 8 = .ok (.aload_n 0, 1) := by decide +kernel
theorem dX6_isNumberOf_9 : decode cX6_isNumberOf 9 = .ok (.getfield 25, 3) := by decide +kernel
theorem dX6_isNumberOf_12 : decode cX6_isNumberOf 12 = .ok (.bipush 32, 2) := by decide +kernel
theorem dX6_isNumberOf_14 : decode cX6_isNumberOf 14 = .ok (.if_icmp .ge 19, 3) := by decide +kernel
theorem dX6_isNumberOf_17 : decode cX6_isNumberOf 17 = .ok (.iload_n 1, 1) := by decide +kernel
theorem dX6_isNumberOf_18 : decode cX6_isNumberOf 18 = .ok (.aload_n 0, 1) := by decide +kernel
theorem dX6_isNumberOf_19 : decode cX6_isNumberOf 19 = .ok (.getfield 25, 3) := by decide +kernel
theorem dX6_isNumberOf_22 : decode cX6_isNumberOf 22 = .ok (.iushr, 1) := by decide +kernel
theorem dX6_isNumberOf_23 : decode cX6_isNumberOf 23 = .ok (.iconst 1, 1) := by decide +kernel
theorem dX6_isNumberOf_24 : decode cX6_isNumberOf 24 = .ok (.iand, 1) := by decide +kernel
theorem dX6_isNumberOf_25 : decode cX6_isNumberOf 25 = .ok (.iconst 1, 1) := by decide +kernel
theorem dX6_isNumberOf_26 : decode cX6_isNumberOf 26 = .ok (.if_icmp .ne 7, 3) := by decide +kernel
theorem dX6_isNumberOf_29 : decode cX6_isNumberOf 29 = .ok (.iconst 1, 1) := by decide +kernel
theorem dX6_isNumberOf_30 : decode cX6_isNumberOf 30 = .ok (.goto 4, 3) := by decide +kernel
theorem dX6_isNumberOf_33 : decode cX6_isNumberOf 33 = .ok (.iconst 0, 1) := by decide +kernel
theorem dX6_isNumberOf_34 : decode cX6_isNumberOf 34 = .ok (.ireturn, 1) := by decide +kernel
theorem dX6_takeSign_0 : decode cX6_takeSign 0 = .ok (.aload_n 0, 1) := by decide +kernel
theorem dX6_takeSign_1 : decode cX6_takeSign 1 = .ok (.getfield 19, 3) := by decide +kernel
theorem dX6_takeSign_4 : decode cX6_takeSign 4 = .ok (.iload_n 1, 1) := by decide +kernel
theorem dX6_takeSign_5 : decode cX6_takeSign 5 = .ok (.if_icmp .eq 9, 3) := by decide +kernel
theorem dX6_takeSign_8 : decode cX6_takeSign 8 = .ok (.aload_n 0, 1) := by decide +kernel
theorem dX6_takeSign_9 : decode cX6_takeSign 9 = .ok (.iconst 1, 1) := by decide +kernel
theorem dX6_takeSign_10 : decode cX6_takeSign 10 = .ok (.invokevirtual 80, 3) := by decide +kernel
theorem dX6_takeSign_13 : decode cX6_takeSign 13 = .ok (.ireturn, 1) := by decide +kernel
theorem dX6_takeSign_14 : decode cX6_takeSign 14 = .ok (.aload_n 0, 1) := by decide +kernel
theorem dX6_takeSign_15 : decode cX6_takeSign 15 = .ok (.invokevirtual 66, 3) := by decide +kernel
theorem dX6_takeSign_18 : decode cX6_takeSign 18 = .ok (.iconst 1, 1) := by decide +kernel
theorem dX6_takeSign_19 : decode cX6_takeSign 19 = .ok (.ireturn, 1) := by decide +kernel
theorem dX6_takeNumber_0 : decode cX6_takeNumber 0 = .ok (.aload_n 0, 1) := by decide +kernel
theorem dX6_takeNumber_1 : decode cX6_takeNumber 1 = .ok (.iload_n 1, 1) := by decide +kernel
theorem dX6_takeNumber_2 : decode cX6_takeNumber 2 = .ok (.iload_n 2, 1) := by decide +kernel
theorem dX6_takeNumber_3 : decode cX6_takeNumber 3 = .ok (.invokevirtual 83, 3) := by decide +kernel
theorem dX6_takeNumber_6 : decode cX6_takeNumber 6 = .ok (.ifCond .ne 5, 3) := by decide +kernel
theorem dX6_takeNumber_9 : decode cX6_takeNumber 9 = .ok (.iconst 0, 1) := by decide +kernel
theorem dX6_takeNumber_10 : decode cX6_takeNumber 10 = .ok (.ireturn, 1) := by decide +kernel
theorem dX6_takeNumber_11 : decode cX6_takeNumber 11 = .ok (.aload_n 0, 1) := by decide +kernel
theorem dX6_takeNumber_12 : decode cX6_takeNumber 12 = .ok (.aload_n 0, 1) := by decide +kernel
theorem dX6_takeNumber_13 : decode cX6_takeNumber 13 = .ok (.getfield 25, 3) := by decide +kernel
theorem dX6_takeNumber_16 : decode cX6_takeNumber 16 = .ok (.putfield 32, 3) := by decide +kernel
theorem dX6_takeNumber_19 : decode cX6_takeNumber 19 = .ok (.aload_n 0, 1) := by decide +kernel
theorem dX6_takeNumber_20 : decode cX6_takeNumber 20 = .ok (.invokevirtual 66, 3) := by decide +kernel
theorem dX6_takeNumber_23 : decode cX6_takeNumber 23 = .ok (.iconst 1, 1) := by decide +kernel
theorem dX6_takeNumber_24 : decode cX6_takeNumber 24 = .ok (.ireturn, 1) := by decide +kernel
theorem dX6_takeInto_0 : decode cX6_takeInto 0 = .ok (.iload_n 2, 1) := by decide +kernel
theorem dX6_takeInto_1 : decode cX6_takeInto 1 = .ok (.ifCond .lt 9, 3) := by decide +kernel
theorem dX6_takeInto_4 : decode cX6_takeInto 4 = .ok (.iload_n 2, 1) := by decide +kernel
theorem dX6_takeInto_5 : decode cX6_takeInto 5 = .ok (.aload_n 1, 1) := by decide +kernel
theorem dX6_takeInto_6 : decode cX6_takeInto 6 = .ok (.arraylength, 1) := by decide +kernel
theorem dX6_takeInto_7 : decode cX6_takeInto 7 = .ok (.if_icmp .lt 9, 3) := by decide +kernel
theorem dX6_takeInto_10 : decode cX6_takeInto 10 = .ok (.aload_n 0, 1) := by decide +kernel
theorem dX6_takeInto_11 : decode cX6_takeInto 11 = .ok (.iconst 4, 1) := by decide +kernel
theorem dX6_takeInto_12 : decode cX6_takeInto 12 = .ok (.invokevirtual 80, 3) := by decide +kernel
theorem dX6_takeInto_15 : decode cX6_takeInto 15 = .ok (.ireturn, 1) := by decide +kernel
theorem dX6_takeInto_16 : decode cX6_takeInto 16 = .ok (.aload_n 0, 1) := by decide +kernel
theorem dX6_takeInto_17 : decode cX6_takeInto 17 = .ok (.iload_n 3, 1) := by decide +kernel
theorem dX6_takeInto_18 : decode cX6_takeInto 18 = .ok (.iload 4, 2) := by decide +kernel
theorem dX6_takeInto_20 : decode cX6_takeInto 20 = .ok (.invokevirtual 83, 3) := by decide +kernel
theorem dX6_takeInto_23 : decode cX6_takeInto 23 = .ok (.ifCond .ne 5, 3) := by decide +kernel
theorem dX6_takeInto_26 : decode cX6_takeInto 26 = .ok (.iconst 0, 1) := by decide +kernel
theorem dX6_takeInto_27 : decode cX6_takeInto 27 = .ok (.ireturn, 1) := by decide +kernel
theorem dX6_takeInto_28 : decode cX6_takeInto 28 = .ok (.aload_n 1, 1) := by decide +kernel
theorem dX6_takeInto_29 : decode cX6_takeInto 29 = .ok (.iload_n 2, 1) := by decide +kernel
theorem dX6_takeInto_30 : decode cX6_takeInto 30 = .ok (.aload_n 0, 1) := by decide +kernel
theorem dX6_takeInto_31 : decode cX6_takeInto 31 = .ok (.getfield 25, 3) := by decide +kernel
theorem dX6_takeInto_34 : decode cX6_takeInto 34 = .ok (.iastore, 1) := by decide +kernel
theorem dX6_takeInto_35 : decode cX6_takeInto 35 = .ok (.aload_n 0, 1) := by decide +kernel
theorem dX6_takeInto_36 : decode cX6_takeInto 36 = .ok (.invokevirtual 66, 3) := by decide +kernel
theorem dX6_takeInto_39 : decode cX6_takeInto 39 = .ok (.iconst 1, 1) := by decide +kernel
theorem dX6_takeInto_40 : decode cX6_takeInto 40 = .ok (.ireturn, 1) := by decide +kernel
theorem dX6_isNumberWithin_0 : decode cX6_isNumberWithin 0 = .ok (.aload_n 0, 1) := by decide +kernel
theorem dX6_isNumberWithin_1 : decode cX6_isNumberWithin 1 = .ok (.getfield 19, 3) := by decide +kernel
theorem dX6_isNumberWithin_4 : decode cX6_isNumberWithin 4 = .ok (.iconst 3, 1) := by decide +kernel
theorem dX6_isNumberWithin_5 : decode cX6_isNumberWithin 5 = .ok (.if_icmp .eq 9, 3) := by decide +kernel
theorem dX6_isNumberWithin_8 : decode cX6_isNumberWithin 8 = .ok (.aload_n 0, 1) := by decide +kernel
theorem dX6_isNumberWithin_9 : decode cX6_isNumberWithin 9 = .ok (.iconst 1, 1) := by decide +kernel
theorem dX6_isNumberWithin_10 : decode cX6_isNumberWithin 10 = .ok (.invokevirtual 80, 3) := by decide +kernel
theorem dX6_isNumberWithin_13 : decode cX6_isNumberWithin 13 = .ok (.ireturn, 1) := by decide +kernel
theorem dX6_isNumberWithin_14 : decode cX6_isNumberWithin 14 = .ok (.aload_n 0, 1) := by decide +kernel
theorem dX6_isNumberWithin_15 : decode cX6_isNumberWithin 15 = .ok (.getfield 25, 3) := by decide +kernel
theorem dX6_isNumberWithin_18 : decode cX6_isNumberWithin 18 = .ok (.iload_n 1, 1) := by decide +kernel
theorem dX6_isNumberWithin_19 : decode cX6_isNumberWithin 19 = .ok (.if_icmp .lt 11, 3) := by decide +kernel
theorem dX6_isNumberWithin_22 : decode cX6_isNumberWithin 22 = .ok (.aload_n 0, 1) := by decide +kernel
theorem dX6_isNumberWithin_23 : decode cX6_isNumberWithin 23 = .ok (.getfield 25, 3) := by decide +kernel
theorem dX6_isNumberWithin_26 : decode cX6_isNumberWithin 26 = .ok (.iload_n 2, 1) := by decide +kernel
theorem dX6_isNumberWithin_27 : decode cX6_isNumberWithin 27 = .ok (.if_icmp .le 11, 3) := by decide +kernel
theorem dX6_isNumberWithin_30 : decode cX6_isNumberWithin 30 = .ok (.aload_n 0, 1) := by decide +kernel
theorem dX6_isNumberWithin_31 : decode cX6_isNumberWithin 31 = .ok (.iconst 2, 1) := by decide +kernel
theorem dX6_isNumberWithin_32 : decode cX6_isNumberWithin 32 = .ok (.invokevirtual 80, 3) := by decide +kernel
theorem dX6_isNumberWithin_35 : decode cX6_isNumberWithin 35 = .ok (.ifCond .eq 7, 3) := by decide +kernel
theorem dX6_isNumberWithin_38 : decode cX6_isNumberWithin 38 = .ok (.iconst 1, 1) := by decide +kernel
theorem dX6_isNumberWithin_39 : decode cX6_isNumberWithin 39 = .ok (.goto 4, 3) := by decide +kernel
theorem dX6_isNumberWithin_42 : decode cX6_isNumberWithin 42 = .ok (.iconst 0, 1) := by decide +kernel
theorem dX6_isNumberWithin_43 : decode cX6_isNumberWithin 43 = .ok (.ireturn, 1) := by decide +kernel
theorem dX7_init_0 : decode cX7_init 0 = .ok (.aload_n 0, 1) := by decide +kernel
theorem dX7_init_1 : decode cX7_init 1 = .ok (.invokespecial 3, 3) := by decide +kernel
theorem dX7_init_4 : decode cX7_init 4 = .ok (.aload_n 0, 1) := by decide +kernel
theorem dX7_init_5 : decode cX7_init 5 = .ok (.bipush 40, 2) := by decide +kernel
theorem dX7_init_7 : decode cX7_init 7 = .ok (.newarray .int, 2) := by decide +kernel
theorem dX7_init_9 : decode cX7_init 9 = .ok (.putfield 9, 3) := by decide +kernel
theorem dX7_init_12 : decode cX7_init 12 = .ok (.aload_n 0, 1) := by decide +kernel
theorem dX7_init_13 : decode cX7_init 13 = .ok (.iconst 4, 1) := by decide +kernel
theorem dX7_init_14 : decode cX7_init 14 = .ok (.newarray .int, 2) := by decide +kernel
theorem dX7_init_16 : decode cX7_init 16 = .ok (.putfield 15, 3) := by decide +kernel
theorem dX7_init_19 : decode cX7_init 19 = .ok (.aload_n 0, 1) := by decide +kernel
theorem dX7_init_20 : decode cX7_init 20 = .ok (.bipush 12, 2) := by decide +kernel
theorem dX7_init_22 : decode cX7_init 22 = .ok (.newarray .int, 2) := by decide +kernel
theorem dX7_init_24 : decode cX7_init 24 = .ok (.putfield 18, 3) := by decide +kernel
theorem dX7_init_27 : decode cX7_init 27 = .ok (.aload_n 0, 1) := by decide +kernel
theorem dX7_init_28 : decode cX7_init 28 = .ok (.iconst 0, 1) := by decide +kernel
theorem dX7_init_29 : decode cX7_init 29 = .ok (.putfield 21, 3) := by decide +kernel
theorem dX7_init_32 : decode cX7_init 32 = .ok (.aload_n 0, 1) := by decide +kernel
theorem dX7_init_33 : decode cX7_init 33 = .ok (.iconst 0, 1) := by decide +kernel
theorem dX7_init_34 : decode cX7_init 34 = .ok (.putfield 25, 3) := by decide +kernel
theorem dX7_init_37 : decode cX7_init 37 = .ok (.aload_n 0, 1) := by decide +kernel
theorem dX7_init_38 : decode cX7_init 38 = .ok (.iconst 0, 1) := by decide +kernel
theorem dX7_init_39 : decode cX7_init 39 = .ok (.putfield 28, 3) := by decide +kernel
theorem dX7_init_42 : decode cX7_init 42 = .ok (.aload_n 0, 1) := by decide +kernel
theorem dX7_init_43 : decode cX7_init 43 = .ok (.iconst 0, 1) := by decide +kernel
theorem dX7_init_44 : decode cX7_init 44 = .ok (.putfield 31, 3) := by decide +kernel
theorem dX7_init_47 : decode cX7_init 47 = .ok (.aload_n 0, 1) := by decide +kernel
theorem dX7_init_48 : decode cX7_init 48 = .ok (.iconst 0, 1) := by decide +kernel
theorem dX7_init_49 : decode cX7_init 49 = .ok (.putfield 34, 3) := by decide +kernel
theorem dX7_init_52 : decode cX7_init 52 = .ok (.aload_n 0, 1) := by decide +kernel
theorem dX7_init_53 : decode cX7_init 53 = .ok (.iconst (-1), 1) := by decide +kernel
theorem dX7_init_54 : decode cX7_init 54 = .ok (.putfield 37, 3) := by decide +kernel
theorem dX7_init_57 : decode cX7_init 57 = .ok (.aload_n 0, 1) := by decide +kernel
theorem dX7_init_58 : decode cX7_init 58 = .ok (.iconst 0, 1) := by decide +kernel
theorem dX7_init_59 : decode cX7_init 59 = .ok (.putfield 40, 3) := by decide +kernel
theorem dX7_init_62 : decode cX7_init 62 = .ok (.aload_n 0, 1) := by decide +kernel
theorem dX7_init_63 : decode cX7_init 63 = .ok (.iconst 0, 1) := by decide +kernel
theorem dX7_init_64 : decode cX7_init 64 = .ok (.putfield 43, 3) := by decide +kernel
theorem dX7_init_67 : decode cX7_init 67 = .ok (.aload_n 0, 1) := by decide +kernel
theorem dX7_init_68 : decode cX7_init 68 = .ok (.iconst (-1), 1) := by decide +kernel
theorem dX7_init_69 : decode cX7_init 69 = .ok (.putfield 46, 3) := by decide +kernel
theorem dX7_init_72 : decode cX7_init 72 = .ok (.aload_n 0, 1) := by decide +kernel
theorem dX7_init_73 : decode cX7_init 73 = .ok (.iconst 0, 1) := by decide +kernel
theorem dX7_init_74 : decode cX7_init 74 = .ok (.putfield 49, 3) := by decide +kernel
theorem dX7_init_77 : decode cX7_init 77 = .ok (.aload_n 0, 1) := by decide +kernel
theorem dX7_init_78 : decode cX7_init 78 = .ok (.iconst 0, 1) := by decide +kernel
theorem dX7_init_79 : decode cX7_init 79 = .ok (.putfield 52, 3) := by decide +kernel
theorem dX7_init_82 : decode cX7_init 82 = .ok (.aload_n 0, 1) := by decide +kernel
theorem dX7_init_83 : decode cX7_init 83 = .ok (.iconst 0, 1) := by decide +kernel
theorem dX7_init_84 : decode cX7_init 84 = .ok (.putfield 55, 3) := by decide +kernel
theorem dX7_init_87 : decode cX7_init 87 = .ok (.aload_n 0, 1) := by decide +kernel
theorem dX7_init_88 : decode cX7_init 88 = .ok (.iconst 0, 1) := by decide +kernel
theorem dX7_init_89 : decode cX7_init 89 = .ok (.putfield 59, 3) := by decide +kernel
theorem dX7_init_92 : decode cX7_init 92 = .ok (.aload_n 0, 1) := by decide +kernel
theorem dX7_init_93 : decode cX7_init 93 = .ok (.iconst (-1), 1) := by decide +kernel
theorem dX7_init_94 : decode cX7_init 94 = .ok (.putfield 62, 3) := by decide +kernel
theorem dX7_init_97 : decode cX7_init 97 = .ok (.aload_n 0, 1) := by decide +kernel
theorem dX7_init_98 : decode cX7_init 98 = .ok (.iconst 0, 1) := by decide +kernel
theorem dX7_init_99 : decode cX7_init 99 = .ok (.putfield 65, 3) := by decide +kernel
theorem dX7_init_102 : decode cX7_init 102 = .ok (.return_, 1) := by decide +kernel
theorem dX7_timeInAll_0 : decode cX7_timeInAll 0 = .ok (.aload_n 0, 1) := by decide +kernel
theorem dX7_timeInAll_1 : decode cX7_timeInAll 1 = .ok (.aload_n 1, 1) := by decide +kernel
theorem dX7_timeInAll_2 : decode cX7_timeInAll 2 = .ok (.aload_n 2, 1) := by decide +kernel
theorem dX7_timeInAll_3 : decode cX7_timeInAll 3 = .ok (.invokevirtual 68, 3) := by decide +kernel
theorem dX7_timeInAll_6 : decode cX7_timeInAll 6 = .ok (.iconst (-1), 1) := by decide +kernel
theorem dX7_timeInAll_7 : decode cX7_timeInAll 7 = .ok (.istore_n 3, 1) := by decide +kernel
theorem dX7_timeInAll_8 : decode cX7_timeInAll 8 = .ok (.aload_n 0, 1) := by decide +kernel
theorem dX7_timeInAll_9 : decode cX7_timeInAll 9 = .ok (.getfield 34, 3) := by decide +kernel
theorem dX7_timeInAll_12 : decode cX7_timeInAll 12 = .ok (.aload_n 1, 1) := by decide +kernel
theorem dX7_timeInAll_13 : decode cX7_timeInAll 13 = .ok (.getfield 72, 3) := by decide +kernel
theorem dX7_timeInAll_16 : decode cX7_timeInAll 16 = .ok (.iconst 2, 1) := by decide +kernel
theorem dX7_timeInAll_17 : decode cX7_timeInAll 17 = .ok (.iaload, 1) := by decide +kernel
theorem dX7_timeInAll_18 : decode cX7_timeInAll 18 = .ok (.if_icmp .gt 21, 3) := by decide +kernel
theorem dX7_timeInAll_21 : decode cX7_timeInAll 21 = .ok (.aload_n 0, 1) := by decide +kernel
theorem dX7_timeInAll_22 : decode cX7_timeInAll 22 = .ok (.aload_n 1, 1) := by decide +kernel
theorem dX7_timeInAll_23 : decode cX7_timeInAll 23 = .ok (.aload_n 2, 1) := by decide +kernel
theorem dX7_timeInAll_24 : decode cX7_timeInAll 24 = .ok (.aload_n 0, 1) := by decide +kernel
theorem dX7_timeInAll_25 : decode cX7_timeInAll 25 = .ok (.getfield 25, 3) := by decide +kernel
theorem dX7_timeInAll_28 : decode cX7_timeInAll 28 = .ok (.aload_n 0, 1) := by decide +kernel
theorem dX7_timeInAll_29 : decode cX7_timeInAll 29 = .ok (.getfield 34, 3) := by decide +kernel
theorem dX7_timeInAll_32 : decode cX7_timeInAll 32 = .ok (.invokevirtual 77, 3) := by decide +kernel
theorem dX7_timeInAll_35 : decode cX7_timeInAll 35 = .ok (.istore_n 3, 1) := by decide +kernel
theorem dX7_timeInAll_36 : decode cX7_timeInAll 36 = .ok (.goto 11, 3) := by decide +kernel
theorem dX7_timeInAll_39 : decode cX7_timeInAll 39 = .ok (.aload_n 0, 1) := by decide +kernel
theorem dX7_timeInAll_40 : decode cX7_timeInAll 40 = .ok (.aload_n 0, 1) := by decide +kernel
theorem dX7_timeInAll_41 : decode cX7_timeInAll 41 = .ok (.getfield 25, 3) := by decide +kernel
theorem dX7_timeInAll_44 : decode cX7_timeInAll 44 = .ok (.invokevirtual 81, 3) := by decide +kernel
theorem dX7_timeInAll_47 : decode cX7_timeInAll 47 = .ok (.aload_n 0, 1) := by decide +kernel
theorem dX7_timeInAll_48 : decode cX7_timeInAll 48 = .ok (.iload_n 3, 1) := by decide +kernel
theorem dX7_timeInAll_49 : decode cX7_timeInAll 49 = .ok (.iconst (-1), 1) := by decide +kernel
theorem dX7_timeInAll_50 : decode cX7_timeInAll 50 = .ok (.if_icmp .ne 7, 3) := by decide +kernel
theorem dX7_timeInAll_53 : decode cX7_timeInAll 53 = .ok (.iconst (-1), 1) := by decide +kernel
theorem dX7_timeInAll_54 : decode cX7_timeInAll 54 = .ok (.goto 9, 3) := by decide +kernel
theorem dX7_timeInAll_57 : decode cX7_timeInAll 57 = .ok (.aload_n 0, 1) := by decide +kernel
theorem dX7_timeInAll_58 : decode cX7_timeInAll 58 = .ok (.getfield 21, 3) := by decide +kernel
theorem dX7_timeInAll_61 : decode cX7_timeInAll 61 = .ok (.iload_n 3, 1) := by decide +kernel
theorem dX7_timeInAll_62 : decode cX7_timeInAll 62 = .ok (.iadd, 1) := by decide +kernel
theorem dX7_timeInAll_63 : decode cX7_timeInAll 63 = .ok (.putfield 37, 3) := by decide +kernel
theorem dX7_timeInAll_66 : decode cX7_timeInAll 66 = .ok (.aload_n 0, 1) := by decide +kernel
theorem dX7_timeInAll_67 : decode cX7_timeInAll 67 = .ok (.getfield 37, 3) := by decide +kernel
theorem dX7_timeInAll_70 : decode cX7_timeInAll 70 = .ok (.ireturn, 1) := by decide +kernel
theorem dX7_timeKicked_0 : decode cX7_timeKicked 0 = .ok (.aload_n 0, 1) := by decide +kernel
theorem dX7_timeKicked_1 : decode cX7_timeKicked 1 = .ok (.iconst 1, 1) := by decide +kernel
theorem dX7_timeKicked_2 : decode cX7_timeKicked 2 = .ok (.putfield 55, 3) := by decide +kernel
theorem dX7_timeKicked_5 : decode cX7_timeKicked 5 = .ok (.aload_n 0, 1) := by decide +kernel
theorem dX7_timeKicked_6 : decode cX7_timeKicked 6 = .ok (.iload_n 3, 1) := by decide +kernel
theorem dX7_timeKicked_7 : decode cX7_timeKicked 7 = .ok (.putfield 59, 3) := by decide +kernel
theorem dX7_timeKicked_10 : decode cX7_timeKicked 10 = .ok (.aload_n 0, 1) := by decide +kernel
theorem dX7_timeKicked_11 : decode cX7_timeKicked 11 = .ok (.aload_n 1, 1) := by decide +kernel
theorem dX7_timeKicked_12 : decode cX7_timeKicked 12 = .ok (.aload_n 2, 1) := by decide +kernel
theorem dX7_timeKicked_13 : decode cX7_timeKicked 13 = .ok (.invokevirtual 85, 3) := by decide +kernel
theorem dX7_timeKicked_16 : decode cX7_timeKicked 16 = .ok (.istore 4, 2) := by decide +kernel
theorem dX7_timeKicked_18 : decode cX7_timeKicked 18 = .ok (.aload_n 0, 1) := by decide +kernel
theorem dX7_timeKicked_19 : decode cX7_timeKicked 19 = .ok (.iconst 0, 1) := by decide +kernel
theorem dX7_timeKicked_20 : decode cX7_timeKicked 20 = .ok (.putfield 55, 3) := by decide +kernel
theorem dX7_timeKicked_23 : decode cX7_timeKicked 23 = .ok (.iload 4, 2) := by decide +kernel
theorem dX7_timeKicked_25 : decode cX7_timeKicked 25 = .ok (.ireturn, 1) := by decide +kernel
theorem dX7_timeTouched_0 : decode cX7_timeTouched 0 = .ok (.aload_n 0, 1) := by decide +kernel
theorem dX7_timeTouched_1 : decode cX7_timeTouched 1 = .ok (.iload_n 3, 1) := by decide +kernel
theorem dX7_timeTouched_2 : decode cX7_timeTouched 2 = .ok (.putfield 62, 3) := by decide +kernel
theorem dX7_timeTouched_5 : decode cX7_timeTouched 5 = .ok (.aload_n 0, 1) := by decide +kernel
theorem dX7_timeTouched_6 : decode cX7_timeTouched 6 = .ok (.iload 4, 2) := by decide +kernel
theorem dX7_timeTouched_8 : decode cX7_timeTouched 8 = .ok (.putfield 65, 3) := by decide +kernel
theorem dX7_timeTouched_11 : decode cX7_timeTouched 11 = .ok (.aload_n 0, 1) := by decide +kernel
theorem dX7_timeTouched_12 : decode cX7_timeTouched 12 = .ok (.aload_n 1, 1) := by decide +kernel
theorem dX7_timeTouched_13 : decode cX7_timeTouched 13 = .ok (.aload_n 2, 1) := by decide +kernel
theorem dX7_timeTouched_14 : decode cX7_timeTouched 14 = .ok (.invokevirtual 85, 3) := by decide +kernel
theorem dX7_timeTouched_17 : decode cX7_timeTouched 17 = .ok (.istore 5, 2) := by decide +kernel
theorem dX7_timeTouched_19 : decode cX7_timeTouched 19 = .ok (.aload_n 0, 1) := by decide +kernel
theorem dX7_timeTouched_20 : decode cX7_timeTouched 20 = .ok (.iconst (-1), 1) := by decide +kernel
theorem dX7_timeTouched_21 : decode cX7_timeTouched 21 = .ok (.putfield 62, 3) := by decide +kernel
theorem dX7_timeTouched_24 : decode cX7_timeTouched 24 = .ok (.iload 5, 2) := by decide +kernel
theorem dX7_timeTouched_26 : decode cX7_timeTouched 26 = .ok (.ireturn, 1) := by decide +kernel
theorem dX7_toLine_0 : decode cX7_toLine 0 = .ok (.bipush 30, 2) := by decide +kernel
theorem dX7_toLine_2 : decode cX7_toLine 2 = .ok (.istore_n 3, 1) := by decide +kernel
theorem dX7_toLine_3 : decode cX7_toLine 3 = .ok (.aload_n 0, 1) := by decide +kernel
theorem dX7_toLine_4 : decode cX7_toLine 4 = .ok (.iconst 0, 1) := by decide +kernel
theorem dX7_toLine_5 : decode cX7_toLine 5 = .ok (.putfield 21, 3) := by decide +kernel
theorem dX7_toLine_8 : decode cX7_toLine 8 = .ok (.aload_n 0, 1) := by decide +kernel
theorem dX7_toLine_9 : decode cX7_toLine 9 = .ok (.iconst 0, 1) := by decide +kernel
theorem dX7_toLine_10 : decode cX7_toLine 10 = .ok (.putfield 28, 3) := by decide +kernel
theorem dX7_toLine_13 : decode cX7_toLine 13 = .ok (.aload_n 0, 1) := by decide +kernel
theorem dX7_toLine_14 : decode cX7_toLine 14 = .ok (.iconst 0, 1) := by decide +kernel
theorem dX7_toLine_15 : decode cX7_toLine 15 = .ok (.putfield 31, 3) := by decide +kernel
theorem dX7_toLine_18 : decode cX7_toLine 18 = .ok (.aload_n 0, 1) := by decide +kernel
theorem dX7_toLine_19 : decode cX7_toLine 19 = .ok (.iconst 0, 1) := by decide +kernel
theorem dX7_toLine_20 : decode cX7_toLine 20 = .ok (.putfield 49, 3) := by decide +kernel
theorem dX7_toLine_23 : decode cX7_toLine 23 = .ok (.aload_n 0, 1) := by decide +kernel
theorem dX7_toLine_24 : decode cX7_toLine 24 = .ok (.bipush (-2), 2) := by decide +kernel
theorem dX7_toLine_26 : decode cX7_toLine 26 = .ok (.putfield 52, 3) := by decide +kernel
theorem dX7_toLine_29 : decode cX7_toLine 29 = .ok (.iconst 0, 1) := by decide +kernel
theorem dX7_toLine_30 : decode cX7_toLine 30 = .ok (.istore 4, 2) := by decide +kernel
theorem dX7_toLine_32 : decode cX7_toLine 32 = .ok (.iload 4, 2) := by decide +kernel
theorem dX7_toLine_34 : decode cX7_toLine 34 = .ok (.aload_n 1, 1) := by decide +kernel
theorem dX7_toLine_35 : decode cX7_toLine 35 = .ok (.getfield 72, 3) := by decide +kernel
theorem dX7_toLine_38 : decode cX7_toLine 38 = .ok (.iconst 0, 1) := by decide +kernel
theorem dX7_toLine_39 : decode cX7_toLine 39 = .ok (.iaload, 1) := by decide +kernel
theorem dX7_toLine_40 : decode cX7_toLine 40 = .ok (.if_icmp .ge 71, 3) := by decide +kernel
theorem dX7_toLine_43 : decode cX7_toLine 43 = .ok (.iload 4, 2) := by decide +kernel
theorem dX7_toLine_45 : decode cX7_toLine 45 = .ok (.bipush 40, 2) := by decide +kernel
theorem dX7_toLine_47 : decode cX7_toLine 47 = .ok (.if_icmp .ge 64, 3) := by decide +kernel
theorem dX7_toLine_50 : decode cX7_toLine 50 = .ok (.iload_n 3, 1) := by decide +kernel
theorem dX7_toLine_51 : decode cX7_toLine 51 = .ok (.aload_n 0, 1) := by decide +kernel
theorem dX7_toLine_52 : decode cX7_toLine 52 = .ok (.aload_n 1, 1) := by decide +kernel
theorem dX7_toLine_53 : decode cX7_toLine 53 = .ok (.aload_n 2, 1) := by decide +kernel
theorem dX7_toLine_54 : decode cX7_toLine 54 = .ok (.iload_n 3, 1) := by decide +kernel
theorem dX7_toLine_55 : decode cX7_toLine 55 = .ok (.invokevirtual 89, 3) := by decide +kernel
theorem dX7_toLine_58 : decode cX7_toLine 58 = .ok (.iadd, 1) := by decide +kernel
theorem dX7_toLine_59 : decode cX7_toLine 59 = .ok (.iconst 4, 1) := by decide +kernel
theorem dX7_toLine_60 : decode cX7_toLine 60 = .ok (.isub, 1) := by decide +kernel
theorem dX7_toLine_61 : decode cX7_toLine 61 = .ok (.aload_n 0, 1) := by decide +kernel
theorem dX7_toLine_62 : decode cX7_toLine 62 = .ok (.getfield 49, 3) := by decide +kernel
theorem dX7_toLine_65 : decode cX7_toLine 65 = .ok (.bipush 100, 2) := by decide +kernel
theorem dX7_toLine_67 : decode cX7_toLine 67 = .ok (.idiv, 1) := by decide +kernel
theorem dX7_toLine_68 : decode cX7_toLine 68 = .ok (.isub, 1) := by decide +kernel
theorem dX7_toLine_69 : decode cX7_toLine 69 = .ok (.invokestatic 93, 3) := by decide +kernel
theorem dX7_toLine_72 : decode cX7_toLine 72 = .ok (.istore_n 3, 1) := by decide +kernel
theorem dX7_toLine_73 : decode cX7_toLine 73 = .ok (.aload_n 0, 1) := by decide +kernel
theorem dX7_toLine_74 : decode cX7_toLine 74 = .ok (.aload_n 1, 1) := by decide +kernel
theorem dX7_toLine_75 : decode cX7_toLine 75 = .ok (.aload_n 2, 1) := by decide +kernel
theorem dX7_toLine_76 : decode cX7_toLine 76 = .ok (.iload 4, 2) := by decide +kernel
theorem dX7_toLine_78 : decode cX7_toLine 78 = .ok (.iload_n 3, 1) := by decide +kernel
theorem dX7_toLine_79 : decode cX7_toLine 79 = .ok (.invokevirtual 97, 3) := by decide +kernel
theorem dX7_toLine_82 : decode cX7_toLine 82 = .ok (.istore_n 3, 1) := by decide +kernel
theorem dX7_toLine_83 : decode cX7_toLine 83 = .ok (.aload_n 0, 1) := by decide +kernel
theorem dX7_toLine_84 : decode cX7_toLine 84 = .ok (.dup, 1) := by decide +kernel
theorem dX7_toLine_85 : decode cX7_toLine 85 = .ok (.getfield 21, 3) := by decide +kernel
theorem dX7_toLine_88 : decode cX7_toLine 88 = .ok (.iconst 1, 1) := by decide +kernel
theorem dX7_toLine_89 : decode cX7_toLine 89 = .ok (.iload_n 3, 1) := by decide +kernel
theorem dX7_toLine_90 : decode cX7_toLine 90 = .ok (.invokestatic 100, 3) := by decide +kernel
theorem dX7_toLine_93 : decode cX7_toLine 93 = .ok (.iadd, 1) := by decide +kernel
theorem dX7_toLine_94 : decode cX7_toLine 94 = .ok (.putfield 21, 3) := by decide +kernel
theorem dX7_toLine_97 : decode cX7_toLine 97 = .ok (.aload_n 0, 1) := by decide +kernel
theorem dX7_toLine_98 : decode cX7_toLine 98 = .ok (.getfield 9, 3) := by decide +kernel
theorem dX7_toLine_101 : decode cX7_toLine 101 = .ok (.iload 4, 2) := by decide +kernel
theorem dX7_toLine_103 : decode cX7_toLine 103 = .ok (.iload_n 3, 1) := by decide +kernel
theorem dX7_toLine_104 : decode cX7_toLine 104 = .ok (.iastore, 1) := by decide +kernel
theorem dX7_toLine_105 : decode cX7_toLine 105 = .ok (.iinc 4 1, 3) := by decide +kernel
theorem dX7_toLine_108 : decode cX7_toLine 108 = .ok (.goto (-76), 3) := by decide +kernel
theorem dX7_toLine_111 : decode cX7_toLine 111 = .ok (.aload_n 0, 1) := by decide +kernel
theorem dX7_toLine_112 : decode cX7_toLine 112 = .ok (.iload_n 3, 1) := by decide +kernel
theorem dX7_toLine_113 : decode cX7_toLine 113 = .ok (.putfield 25, 3) := by decide +kernel
theorem dX7_toLine_116 : decode cX7_toLine 116 = .ok (.aload_n 0, 1) := by decide +kernel
theorem dX7_toLine_117 : decode cX7_toLine 117 = .ok (.aload_n 1, 1) := by decide +kernel
theorem dX7_toLine_118 : decode cX7_toLine 118 = .ok (.getfield 72, 3) := by decide +kernel
theorem dX7_toLine_121 : decode cX7_toLine 121 = .ok (.iconst 1, 1) := by decide +kernel
theorem dX7_toLine_122 : decode cX7_toLine 122 = .ok (.iaload, 1) := by decide +kernel
theorem dX7_toLine_123 : decode cX7_toLine 123 = .ok (.aload_n 2, 1) := by decide +kernel
theorem dX7_toLine_124 : decode cX7_toLine 124 = .ok (.getfield 104, 3) := by decide +kernel
theorem dX7_toLine_127 : decode cX7_toLine 127 = .ok (.iadd, 1) := by decide +kernel
theorem dX7_toLine_128 : decode cX7_toLine 128 = .ok (.aload_n 0, 1) := by decide +kernel
theorem dX7_toLine_129 : decode cX7_toLine 129 = .ok (.getfield 49, 3) := by decide +kernel
theorem dX7_toLine_132 : decode cX7_toLine 132 = .ok (.iadd, 1) := by decide +kernel
theorem dX7_toLine_133 : decode cX7_toLine 133 = .ok (.putfield 34, 3) := by decide +kernel
theorem dX7_toLine_136 : decode cX7_toLine 136 = .ok (.return_, 1) := by decide +kernel
theorem dX7_pushed_0 : decode cX7_pushed 0 = .ok (.iconst 0, 1) := by decide +kernel
theorem dX7_pushed_1 : decode cX7_pushed 1 = .ok (.istore 4, 2) := by decide +kernel
theorem dX7_pushed_3 : decode cX7_pushed 3 = .ok (.iconst 0, 1) := by decide +kernel
theorem dX7_pushed_4 : decode cX7_pushed 4 = .ok (.istore 5, 2) := by decide +kernel
theorem dX7_pushed_6 : decode cX7_pushed 6 = .ok (.iload 5, 2) := by decide +kernel
theorem dX7_pushed_8 : decode cX7_pushed 8 = .ok (.iconst 4, 1) := by decide +kernel
theorem dX7_pushed_9 : decode cX7_pushed 9 = .ok (.if_icmp .ge 61, 3) := by decide +kernel
theorem dX7_pushed_12 : decode cX7_pushed 12 = .ok (.aload_n 2, 1) := by decide +kernel
theorem dX7_pushed_13 : decode cX7_pushed 13 = .ok (.getfield 109, 3) := by decide +kernel
theorem dX7_pushed_16 : decode cX7_pushed 16 = .ok (.iload 5, 2) := by decide +kernel
theorem dX7_pushed_18 : decode cX7_pushed 18 = .ok (.iaload, 1) := by decide +kernel
theorem dX7_pushed_19 : decode cX7_pushed 19 = .ok (.istore 6, 2) := by decide +kernel
theorem dX7_pushed_21 : decode cX7_pushed 21 = .ok (.aload_n 0, 1) := by decide +kernel
theorem dX7_pushed_22 : decode cX7_pushed 22 = .ok (.getfield 28, 3) := by decide +kernel
theorem dX7_pushed_25 : decode cX7_pushed 25 = .ok (.aload_n 0, 1) := by decide +kernel
theorem dX7_pushed_26 : decode cX7_pushed 26 = .ok (.getfield 31, 3) := by decide +kernel
theorem dX7_pushed_29 : decode cX7_pushed 29 = .ok (.ior, 1) := by decide +kernel
theorem dX7_pushed_30 : decode cX7_pushed 30 = .ok (.iload 5, 2) := by decide +kernel
theorem dX7_pushed_32 : decode cX7_pushed 32 = .ok (.ishr, 1) := by decide +kernel
theorem dX7_pushed_33 : decode cX7_pushed 33 = .ok (.iconst 1, 1) := by decide +kernel
theorem dX7_pushed_34 : decode cX7_pushed 34 = .ok (.iand, 1) := by decide +kernel
theorem dX7_pushed_35 : decode cX7_pushed 35 = .ok (.ifCond .ne 29, 3) := by decide +kernel
theorem dX7_pushed_38 : decode cX7_pushed 38 = .ok (.iload_n 3, 1) := by decide +kernel
theorem dX7_pushed_39 : decode cX7_pushed 39 = .ok (.bipush 12, 2) := by decide +kernel
theorem dX7_pushed_41 : decode cX7_pushed 41 = .ok (.aload_n 1, 1) := by decide +kernel
theorem dX7_pushed_42 : decode cX7_pushed 42 = .ok (.getfield 112, 3) := by decide +kernel
theorem dX7_pushed_45 : decode cX7_pushed 45 = .ok (.iload 6, 2) := by decide +kernel
theorem dX7_pushed_47 : decode cX7_pushed 47 = .ok (.iaload, 1) := by decide +kernel
theorem dX7_pushed_48 : decode cX7_pushed 48 = .ok (.imul, 1) := by decide +kernel
theorem dX7_pushed_49 : decode cX7_pushed 49 = .ok (.if_icmp .ge 15, 3) := by decide +kernel
theorem dX7_pushed_52 : decode cX7_pushed 52 = .ok (.iload 4, 2) := by decide +kernel
theorem dX7_pushed_54 : decode cX7_pushed 54 = .ok (.aload_n 1, 1) := by decide +kernel
theorem dX7_pushed_55 : decode cX7_pushed 55 = .ok (.getfield 115, 3) := by decide +kernel
theorem dX7_pushed_58 : decode cX7_pushed 58 = .ok (.iload 6, 2) := by decide +kernel
theorem dX7_pushed_60 : decode cX7_pushed 60 = .ok (.iaload, 1) := by decide +kernel
theorem dX7_pushed_61 : decode cX7_pushed 61 = .ok (.iadd, 1) := by decide +kernel
theorem dX7_pushed_62 : decode cX7_pushed 62 = .ok (.istore 4, 2) := by decide +kernel
theorem dX7_pushed_64 : decode cX7_pushed 64 = .ok (.iinc 5 1, 3) := by decide +kernel
theorem dX7_pushed_67 : decode cX7_pushed 67 = .ok (.goto (-61), 3) := by decide +kernel
theorem dX7_pushed_70 : decode cX7_pushed 70 = .ok (.iload 4, 2) := by decide +kernel
theorem dX7_pushed_72 : decode cX7_pushed 72 = .ok (.ireturn, 1) := by decide +kernel
theorem dX7_behindJumps_0 : decode cX7_behindJumps 0 = .ok (.iload 4, 2) := by decide +kernel
theorem dX7_behindJumps_2 : decode cX7_behindJumps 2 = .ok (.istore 5, 2) := by decide +kernel
theorem dX7_behindJumps_4 : decode cX7_behindJumps 4 = .ok (.iconst 0, 1) := by decide +kernel
theorem dX7_behindJumps_5 : decode cX7_behindJumps 5 = .ok (.istore 6, 2) := by decide +kernel
theorem dX7_behindJumps_7 : decode cX7_behindJumps 7 = .ok (.iload 6, 2) := by decide +kernel
theorem dX7_behindJumps_9 : decode cX7_behindJumps 9 = .ok (.iconst 4, 1) := by decide +kernel
theorem dX7_behindJumps_10 : decode cX7_behindJumps 10 = .ok (.if_icmp .ge 175, 3) := by decide +kernel
theorem dX7_behindJumps_13 : decode cX7_behindJumps 13 = .ok (.aload_n 2, 1) := by decide +kernel
theorem dX7_behindJumps_14 : decode cX7_behindJumps 14 = .ok (.getfield 118, 3) := by decide +kernel
theorem dX7_behindJumps_17 : decode cX7_behindJumps 17 = .ok (.iload 6, 2) := by decide +kernel
theorem dX7_behindJumps_19 : decode cX7_behindJumps 19 = .ok (.iaload, 1) := by decide +kernel
theorem dX7_behindJumps_20 : decode cX7_behindJumps 20 = .ok (.iload_n 3, 1) := by decide +kernel
theorem dX7_behindJumps_21 : decode cX7_behindJumps 21 = .ok (.if_icmp .eq 6, 3) := by decide +kernel
theorem dX7_behindJumps_24 : decode cX7_behindJumps 24 = .ok (.goto 155, 3) := by decide +kernel
theorem dX7_behindJumps_27 : decode cX7_behindJumps 27 = .ok (.aload_n 2, 1) := by decide +kernel
theorem dX7_behindJumps_28 : decode cX7_behindJumps 28 = .ok (.getfield 109, 3) := by decide +kernel
theorem dX7_behindJumps_31 : decode cX7_behindJumps 31 = .ok (.iload 6, 2) := by decide +kernel
theorem dX7_behindJumps_33 : decode cX7_behindJumps 33 = .ok (.iaload, 1) := by decide +kernel
theorem dX7_behindJumps_34 : decode cX7_behindJumps 34 = .ok (.istore 7, 2) := by decide +kernel
theorem dX7_behindJumps_36 : decode cX7_behindJumps 36 = .ok (.bipush 12, 2) := by decide +kernel
theorem dX7_behindJumps_38 : decode cX7_behindJumps 38 = .ok (.aload_n 1, 1) := by decide +kernel
theorem dX7_behindJumps_39 : decode cX7_behindJumps 39 = .ok (.getfield 112, 3) := by decide +kernel
theorem dX7_behindJumps_42 : decode cX7_behindJumps 42 = .ok (.iload 7, 2) := by decide +kernel
theorem dX7_behindJumps_44 : decode cX7_behindJumps 44 = .ok (.iaload, 1) := by decide +kernel
theorem dX7_behindJumps_45 : decode cX7_behindJumps 45 = .ok (.imul, 1) := by decide +kernel
theorem dX7_behindJumps_46 : decode cX7_behindJumps 46 = .ok (.bipush 20, 2) := by decide +kernel
theorem dX7_behindJumps_48 : decode cX7_behindJumps 48 = .ok (.iadd, 1) := by decide +kernel
theorem dX7_behindJumps_49 : decode cX7_behindJumps 49 = .ok (.iload 5, 2) := by decide +kernel
theorem dX7_behindJumps_51 : decode cX7_behindJumps 51 = .ok (.if_icmp .ge 27, 3) := by decide +kernel
theorem dX7_behindJumps_54 : decode cX7_behindJumps 54 = .ok (.aload_n 0, 1) := by decide +kernel
theorem dX7_behindJumps_55 : decode cX7_behindJumps 55 = .ok (.dup, 1) := by decide +kernel
theorem dX7_behindJumps_56 : decode cX7_behindJumps 56 = .ok (.getfield 31, 3) := by decide +kernel
theorem dX7_behindJumps_59 : decode cX7_behindJumps 59 = .ok (.iconst 1, 1) := by decide +kernel
theorem dX7_behindJumps_60 : decode cX7_behindJumps 60 = .ok (.iload 6, 2) := by decide +kernel
theorem dX7_behindJumps_62 : decode cX7_behindJumps 62 = .ok (.ishl, 1) := by decide +kernel
theorem dX7_behindJumps_63 : decode cX7_behindJumps 63 = .ok (.ior, 1) := by decide +kernel
theorem dX7_behindJumps_64 : decode cX7_behindJumps 64 = .ok (.putfield 31, 3) := by decide +kernel
theorem dX7_behindJumps_67 : decode cX7_behindJumps 67 = .ok (.aload_n 0, 1) := by decide +kernel
theorem dX7_behindJumps_68 : decode cX7_behindJumps 68 = .ok (.getfield 15, 3) := by decide +kernel
theorem dX7_behindJumps_71 : decode cX7_behindJumps 71 = .ok (.iload 6, 2) := by decide +kernel
theorem dX7_behindJumps_73 : decode cX7_behindJumps 73 = .ok (.iconst 2, 1) := by decide +kernel
theorem dX7_behindJumps_74 : decode cX7_behindJumps 74 = .ok (.iastore, 1) := by decide +kernel
theorem dX7_behindJumps_75 : decode cX7_behindJumps 75 = .ok (.goto 104, 3) := by decide +kernel
theorem dX7_behindJumps_78 : decode cX7_behindJumps 78 = .ok (.aload_n 0, 1) := by decide +kernel
theorem dX7_behindJumps_79 : decode cX7_behindJumps 79 = .ok (.getfield 52, 3) := by decide +kernel
theorem dX7_behindJumps_82 : decode cX7_behindJumps 82 = .ok (.iload_n 3, 1) := by decide +kernel
theorem dX7_behindJumps_83 : decode cX7_behindJumps 83 = .ok (.iconst 1, 1) := by decide +kernel
theorem dX7_behindJumps_84 : decode cX7_behindJumps 84 = .ok (.isub, 1) := by decide +kernel
theorem dX7_behindJumps_85 : decode cX7_behindJumps 85 = .ok (.if_icmp .lt 7, 3) := by decide +kernel
theorem dX7_behindJumps_88 : decode cX7_behindJumps 88 = .ok (.iconst 1, 1) := by decide +kernel
theorem dX7_behindJumps_89 : decode cX7_behindJumps 89 = .ok (.goto 4, 3) := by decide +kernel
theorem dX7_behindJumps_92 : decode cX7_behindJumps 92 = .ok (.iconst 0, 1) := by decide +kernel
theorem dX7_behindJumps_93 : decode cX7_behindJumps 93 = .ok (.istore 8, 2) := by decide +kernel
theorem dX7_behindJumps_95 : decode cX7_behindJumps 95 = .ok (.aload_n 0, 1) := by decide +kernel
theorem dX7_behindJumps_96 : decode cX7_behindJumps 96 = .ok (.getfield 15, 3) := by decide +kernel
theorem dX7_behindJumps_99 : decode cX7_behindJumps 99 = .ok (.iload 6, 2) := by decide +kernel
theorem dX7_behindJumps_101 : decode cX7_behindJumps 101 = .ok (.iload 8, 2) := by decide +kernel
theorem dX7_behindJumps_103 : decode cX7_behindJumps 103 = .ok (.ifCond .eq 7, 3) := by decide +kernel
theorem dX7_behindJumps_106 : decode cX7_behindJumps 106 = .ok (.iconst 1, 1) := by decide +kernel
theorem dX7_behindJumps_107 : decode cX7_behindJumps 107 = .ok (.goto 4, 3) := by decide +kernel
theorem dX7_behindJumps_110 : decode cX7_behindJumps 110 = .ok (.iconst 0, 1) := by decide +kernel
theorem dX7_behindJumps_111 : decode cX7_behindJumps 111 = .ok (.iastore, 1) := by decide +kernel
theorem dX7_behindJumps_112 : decode cX7_behindJumps 112 = .ok (.iload 5, 2) := by decide +kernel
theorem dX7_behindJumps_114 : decode cX7_behindJumps 114 = .ok (.iload 8, 2) := by decide +kernel
theorem dX7_behindJumps_116 : decode cX7_behindJumps 116 = .ok (.ifCond .eq 8, 3) := by decide +kernel
theorem dX7_behindJumps_119 : decode cX7_behindJumps 119 = .ok (.bipush 6, 2) := by decide +kernel
theorem dX7_behindJumps_121 : decode cX7_behindJumps 121 = .ok (.goto 4, 3) := by decide +kernel
theorem dX7_behindJumps_124 : decode cX7_behindJumps 124 = .ok (.iconst 2, 1) := by decide +kernel
theorem dX7_behindJumps_125 : decode cX7_behindJumps 125 = .ok (.isub, 1) := by decide +kernel
theorem dX7_behindJumps_126 : decode cX7_behindJumps 126 = .ok (.aload_n 0, 1) := by decide +kernel
theorem dX7_behindJumps_127 : decode cX7_behindJumps 127 = .ok (.invokevirtual 121, 3) := by decide +kernel
theorem dX7_behindJumps_130 : decode cX7_behindJumps 130 = .ok (.ifCond .eq 8, 3) := by decide +kernel
theorem dX7_behindJumps_133 : decode cX7_behindJumps 133 = .ok (.bipush 10, 2) := by decide +kernel
theorem dX7_behindJumps_135 : decode cX7_behindJumps 135 = .ok (.goto 4, 3) := by decide +kernel
theorem dX7_behindJumps_138 : decode cX7_behindJumps 138 = .ok (.iconst 0, 1) := by decide +kernel
theorem dX7_behindJumps_139 : decode cX7_behindJumps 139 = .ok (.isub, 1) := by decide +kernel
theorem dX7_behindJumps_140 : decode cX7_behindJumps 140 = .ok (.invokestatic 93, 3) := by decide +kernel
theorem dX7_behindJumps_143 : decode cX7_behindJumps 143 = .ok (.istore 5, 2) := by decide +kernel
theorem dX7_behindJumps_145 : decode cX7_behindJumps 145 = .ok (.aload_n 0, 1) := by decide +kernel
theorem dX7_behindJumps_146 : decode cX7_behindJumps 146 = .ok (.dup, 1) := by decide +kernel
theorem dX7_behindJumps_147 : decode cX7_behindJumps 147 = .ok (.getfield 28, 3) := by decide +kernel
theorem dX7_behindJumps_150 : decode cX7_behindJumps 150 = .ok (.iconst 1, 1) := by decide +kernel
theorem dX7_behindJumps_151 : decode cX7_behindJumps 151 = .ok (.iload 6, 2) := by decide +kernel
theorem dX7_behindJumps_153 : decode cX7_behindJumps 153 = .ok (.ishl, 1) := by decide +kernel
theorem dX7_behindJumps_154 : decode cX7_behindJumps 154 = .ok (.ior, 1) := by decide +kernel
theorem dX7_behindJumps_155 : decode cX7_behindJumps 155 = .ok (.putfield 28, 3) := by decide +kernel
theorem dX7_behindJumps_158 : decode cX7_behindJumps 158 = .ok (.aload_n 0, 1) := by decide +kernel
theorem dX7_behindJumps_159 : decode cX7_behindJumps 159 = .ok (.dup, 1) := by decide +kernel
theorem dX7_behindJumps_160 : decode cX7_behindJumps 160 = .ok (.getfield 49, 3) := by decide +kernel
theorem dX7_behindJumps_163 : decode cX7_behindJumps 163 = .ok (.aload_n 1, 1) := by decide +kernel
theorem dX7_behindJumps_164 : decode cX7_behindJumps 164 = .ok (.getfield 125, 3) := by decide +kernel
theorem dX7_behindJumps_167 : decode cX7_behindJumps 167 = .ok (.iload 7, 2) := by decide +kernel
theorem dX7_behindJumps_169 : decode cX7_behindJumps 169 = .ok (.iaload, 1) := by decide +kernel
theorem dX7_behindJumps_170 : decode cX7_behindJumps 170 = .ok (.iadd, 1) := by decide +kernel
theorem dX7_behindJumps_171 : decode cX7_behindJumps 171 = .ok (.putfield 49, 3) := by decide +kernel
theorem dX7_behindJumps_174 : decode cX7_behindJumps 174 = .ok (.aload_n 0, 1) := by decide +kernel
theorem dX7_behindJumps_175 : decode cX7_behindJumps 175 = .ok (.iload_n 3, 1) := by decide +kernel
theorem dX7_behindJumps_176 : decode cX7_behindJumps 176 = .ok (.putfield 52, 3) := by decide +kernel
theorem dX7_behindJumps_179 : decode cX7_behindJumps 179 = .ok (.iinc 6 1, 3) := by decide +kernel
theorem dX7_behindJumps_182 : decode cX7_behindJumps 182 = .ok (.goto (-175), 3) := by decide +kernel
theorem dX7_behindJumps_185 : decode cX7_behindJumps 185 = .ok (.iload 5, 2) := by decide +kernel
theorem dX7_behindJumps_187 : decode cX7_behindJumps 187 = .ok (.ireturn, 1) := by decide +kernel
theorem dX7_drawsKick_0 : decode cX7_drawsKick 0 = .ok (.aload_n 0, 1) := by decide +kernel
theorem dX7_drawsKick_1 : decode cX7_drawsKick 1 = .ok (.getfield 55, 3) := by decide +kernel
theorem dX7_drawsKick_4 : decode cX7_drawsKick 4 = .ok (.ifCond .ne 5, 3) := by decide +kernel
theorem dX7_drawsKick_7 : decode cX7_drawsKick 7 = .ok (.iconst 0, 1) := by decide +kernel
theorem dX7_drawsKick_8 : decode cX7_drawsKick 8 = .ok (.ireturn, 1) := by decide +kernel
theorem dX7_drawsKick_9 : decode cX7_drawsKick 9 = .ok (.aload_n 0, 1) := by decide +kernel
theorem dX7_drawsKick_10 : decode cX7_drawsKick 10 = .ok (.aload_n 0, 1) := by decide +kernel
theorem dX7_drawsKick_11 : decode cX7_drawsKick 11 = .ok (.getfield 59, 3) := by decide +kernel
theorem dX7_drawsKick_14 : decode cX7_drawsKick 14 = .ok (.ldc 127, 2) := by decide +kernel
theorem dX7_drawsKick_16 : decode cX7_drawsKick 16 = .ok (.imul, 1) := by decide +kernel
theorem dX7_drawsKick_17 : decode cX7_drawsKick 17 = .ok (.sipush 12345, 3) := by decide +kernel
theorem dX7_drawsKick_20 : decode cX7_drawsKick 20 = .ok (.iadd, 1) := by decide +kernel
theorem dX7_drawsKick_21 : decode cX7_drawsKick 21 = .ok (.putfield 59, 3) := by decide +kernel
theorem dX7_drawsKick_24 : decode cX7_drawsKick 24 = .ok (.aload_n 0, 1) := by decide +kernel
theorem dX7_drawsKick_25 : decode cX7_drawsKick 25 = .ok (.getfield 59, 3) := by decide +kernel
theorem dX7_drawsKick_28 : decode cX7_drawsKick 28 = .ok (.bipush 8, 2) := by decide +kernel
theorem dX7_drawsKick_30 : decode cX7_drawsKick 30 = .ok (.iushr, 1) := by decide +kernel
theorem dX7_drawsKick_31 : decode cX7_drawsKick 31 = .ok (.bipush 8, 2) := by decide +kernel
theorem dX7_drawsKick_33 : decode cX7_drawsKick 33 = .ok (.irem, 1) := by decide +kernel
theorem dX7_drawsKick_34 : decode cX7_drawsKick 34 = .ok (.ifCond .ne 7, 3) := by decide +kernel
theorem dX7_drawsKick_37 : decode cX7_drawsKick 37 = .ok (.iconst 1, 1) := by decide +kernel
theorem dX7_drawsKick_38 : decode cX7_drawsKick 38 = .ok (.goto 4, 3) := by decide +kernel
theorem dX7_drawsKick_41 : decode cX7_drawsKick 41 = .ok (.iconst 0, 1) := by decide +kernel
theorem dX7_drawsKick_42 : decode cX7_drawsKick 42 = .ok (.ireturn, 1) := by decide +kernel
theorem dX7_standAtLine_0 : decode cX7_standAtLine 0 = .ok (.aload_n 0, 1) := by decide +kernel
theorem dX7_standAtLine_1 : decode cX7_standAtLine 1 = .ok (.iload_n 1, 1) := by decide +kernel
theorem dX7_standAtLine_2 : decode cX7_standAtLine 2 = .ok (.putfield 40, 3) := by decide +kernel
theorem dX7_standAtLine_5 : decode cX7_standAtLine 5 = .ok (.aload_n 0, 1) := by decide +kernel
theorem dX7_standAtLine_6 : decode cX7_standAtLine 6 = .ok (.iconst 0, 1) := by decide +kernel
theorem dX7_standAtLine_7 : decode cX7_standAtLine 7 = .ok (.putfield 43, 3) := by decide +kernel
theorem dX7_standAtLine_10 : decode cX7_standAtLine 10 = .ok (.aload_n 0, 1) := by decide +kernel
theorem dX7_standAtLine_11 : decode cX7_standAtLine 11 = .ok (.iconst (-1), 1) := by decide +kernel
theorem dX7_standAtLine_12 : decode cX7_standAtLine 12 = .ok (.putfield 46, 3) := by decide +kernel
theorem dX7_standAtLine_15 : decode cX7_standAtLine 15 = .ok (.return_, 1) := by decide +kernel
theorem dX7_wayDown_0 : decode cX7_wayDown 0 = .ok (.iload_n 3, 1) := by decide +kernel
theorem dX7_wayDown_1 : decode cX7_wayDown 1 = .ok (.istore 5, 2) := by decide +kernel
theorem dX7_wayDown_3 : decode cX7_wayDown 3 = .ok (.iconst 0, 1) := by decide +kernel
theorem dX7_wayDown_4 : decode cX7_wayDown 4 = .ok (.istore 6, 2) := by decide +kernel
theorem dX7_wayDown_6 : decode cX7_wayDown 6 = .ok (.iconst 0, 1) := by decide +kernel
theorem dX7_wayDown_7 : decode cX7_wayDown 7 = .ok (.istore 7, 2) := by decide +kernel
theorem dX7_wayDown_9 : decode cX7_wayDown 9 = .ok (.aload_n 0, 1) := by decide +kernel
theorem dX7_wayDown_10 : decode cX7_wayDown 10 = .ok (.iload_n 3, 1) := by decide +kernel
theorem dX7_wayDown_11 : decode cX7_wayDown 11 = .ok (.invokevirtual 81, 3) := by decide +kernel
theorem dX7_wayDown_14 : decode cX7_wayDown 14 = .ok (.iconst 0, 1) := by decide +kernel
theorem dX7_wayDown_15 : decode cX7_wayDown 15 = .ok (.istore 8, 2) := by decide +kernel
theorem dX7_wayDown_17 : decode cX7_wayDown 17 = .ok (.iload 8, 2) := by decide +kernel
theorem dX7_wayDown_19 : decode cX7_wayDown 19 = .ok (.aload_n 1, 1) := by decide +kernel
theorem dX7_wayDown_20 : decode cX7_wayDown 20 = .ok (.getfield 128, 3) := by decide +kernel
theorem dX7_wayDown_23 : decode cX7_wayDown 23 = .ok (.if_icmp .ge 136, 3) := by decide +kernel
theorem dX7_wayDown_26 : decode cX7_wayDown 26 = .ok (.aload_n 2, 1) := by decide +kernel
theorem dX7_wayDown_27 : decode cX7_wayDown 27 = .ok (.getfield 131, 3) := by decide +kernel
theorem dX7_wayDown_30 : decode cX7_wayDown 30 = .ok (.iload 8, 2) := by decide +kernel
theorem dX7_wayDown_32 : decode cX7_wayDown 32 = .ok (.iaload, 1) := by decide +kernel
theorem dX7_wayDown_33 : decode cX7_wayDown 33 = .ok (.istore 9, 2) := by decide +kernel
theorem dX7_wayDown_35 : decode cX7_wayDown 35 = .ok (.iload 5, 2) := by decide +kernel
theorem dX7_wayDown_37 : decode cX7_wayDown 37 = .ok (.aload_n 1, 1) := by decide +kernel
theorem dX7_wayDown_38 : decode cX7_wayDown 38 = .ok (.iload 8, 2) := by decide +kernel
theorem dX7_wayDown_40 : decode cX7_wayDown 40 = .ok (.aload_n 2, 1) := by decide +kernel
theorem dX7_wayDown_41 : decode cX7_wayDown 41 = .ok (.iload 4, 2) := by decide +kernel
theorem dX7_wayDown_43 : decode cX7_wayDown 43 = .ok (.invokevirtual 134, 3) := by decide +kernel
theorem dX7_wayDown_46 : decode cX7_wayDown 46 = .ok (.iadd, 1) := by decide +kernel
theorem dX7_wayDown_47 : decode cX7_wayDown 47 = .ok (.aload_n 1, 1) := by decide +kernel
theorem dX7_wayDown_48 : decode cX7_wayDown 48 = .ok (.iload 8, 2) := by decide +kernel
theorem dX7_wayDown_50 : decode cX7_wayDown 50 = .ok (.iload 9, 2) := by decide +kernel
theorem dX7_wayDown_52 : decode cX7_wayDown 52 = .ok (.iload 7, 2) := by decide +kernel
theorem dX7_wayDown_54 : decode cX7_wayDown 54 = .ok (.invokevirtual 138, 3) := by decide +kernel
theorem dX7_wayDown_57 : decode cX7_wayDown 57 = .ok (.isub, 1) := by decide +kernel
theorem dX7_wayDown_58 : decode cX7_wayDown 58 = .ok (.invokestatic 93, 3) := by decide +kernel
theorem dX7_wayDown_61 : decode cX7_wayDown 61 = .ok (.istore 5, 2) := by decide +kernel
theorem dX7_wayDown_63 : decode cX7_wayDown 63 = .ok (.aload_n 0, 1) := by decide +kernel
theorem dX7_wayDown_64 : decode cX7_wayDown 64 = .ok (.iload 5, 2) := by decide +kernel
theorem dX7_wayDown_66 : decode cX7_wayDown 66 = .ok (.putfield 40, 3) := by decide +kernel
theorem dX7_wayDown_69 : decode cX7_wayDown 69 = .ok (.aload_n 1, 1) := by decide +kernel
theorem dX7_wayDown_70 : decode cX7_wayDown 70 = .ok (.iload 8, 2) := by decide +kernel
theorem dX7_wayDown_72 : decode cX7_wayDown 72 = .ok (.iload 5, 2) := by decide +kernel
theorem dX7_wayDown_74 : decode cX7_wayDown 74 = .ok (.iload 9, 2) := by decide +kernel
theorem dX7_wayDown_76 : decode cX7_wayDown 76 = .ok (.invokevirtual 142, 3) := by decide +kernel
theorem dX7_wayDown_79 : decode cX7_wayDown 79 = .ok (.ifCond .eq 11, 3) := by decide +kernel
theorem dX7_wayDown_82 : decode cX7_wayDown 82 = .ok (.aload_n 0, 1) := by decide +kernel
theorem dX7_wayDown_83 : decode cX7_wayDown 83 = .ok (.iload 8, 2) := by decide +kernel
theorem dX7_wayDown_85 : decode cX7_wayDown 85 = .ok (.putfield 46, 3) := by decide +kernel
theorem dX7_wayDown_88 : decode cX7_wayDown 88 = .ok (.iconst (-1), 1) := by decide +kernel
theorem dX7_wayDown_89 : decode cX7_wayDown 89 = .ok (.ireturn, 1) := by decide +kernel
theorem dX7_wayDown_90 : decode cX7_wayDown 90 = .ok (.iload 8, 2) := by decide +kernel
theorem dX7_wayDown_92 : decode cX7_wayDown 92 = .ok (.aload_n 0, 1) := by decide +kernel
theorem dX7_wayDown_93 : decode cX7_wayDown 93 = .ok (.getfield 62, 3) := by decide +kernel
theorem dX7_wayDown_96 : decode cX7_wayDown 96 = .ok (.if_icmp .ne 17, 3) := by decide +kernel
theorem dX7_wayDown_99 : decode cX7_wayDown 99 = .ok (.bipush 10, 2) := by decide +kernel
theorem dX7_wayDown_101 : decode cX7_wayDown 101 = .ok (.iload 5, 2) := by decide +kernel
theorem dX7_wayDown_103 : decode cX7_wayDown 103 = .ok (.aload_n 0, 1) := by decide +kernel
theorem dX7_wayDown_104 : decode cX7_wayDown 104 = .ok (.getfield 65, 3) := by decide +kernel
theorem dX7_wayDown_107 : decode cX7_wayDown 107 = .ok (.isub, 1) := by decide +kernel
theorem dX7_wayDown_108 : decode cX7_wayDown 108 = .ok (.invokestatic 146, 3) := by decide +kernel
theorem dX7_wayDown_111 : decode cX7_wayDown 111 = .ok (.istore 5, 2) := by decide +kernel
theorem dX7_wayDown_113 : decode cX7_wayDown 113 = .ok (.iload 6, 2) := by decide +kernel
theorem dX7_wayDown_115 : decode cX7_wayDown 115 = .ok (.aload_n 1, 1) := by decide +kernel
theorem dX7_wayDown_116 : decode cX7_wayDown 116 = .ok (.getfield 151, 3) := by decide +kernel
theorem dX7_wayDown_119 : decode cX7_wayDown 119 = .ok (.iload 8, 2) := by decide +kernel
theorem dX7_wayDown_121 : decode cX7_wayDown 121 = .ok (.iaload, 1) := by decide +kernel
theorem dX7_wayDown_122 : decode cX7_wayDown 122 = .ok (.iload 5, 2) := by decide +kernel
theorem dX7_wayDown_124 : decode cX7_wayDown 124 = .ok (.invokestatic 100, 3) := by decide +kernel
theorem dX7_wayDown_127 : decode cX7_wayDown 127 = .ok (.iadd, 1) := by decide +kernel
theorem dX7_wayDown_128 : decode cX7_wayDown 128 = .ok (.istore 6, 2) := by decide +kernel
theorem dX7_wayDown_130 : decode cX7_wayDown 130 = .ok (.aload_n 0, 1) := by decide +kernel
theorem dX7_wayDown_131 : decode cX7_wayDown 131 = .ok (.getfield 18, 3) := by decide +kernel
theorem dX7_wayDown_134 : decode cX7_wayDown 134 = .ok (.iload 8, 2) := by decide +kernel
theorem dX7_wayDown_136 : decode cX7_wayDown 136 = .ok (.iload 5, 2) := by decide +kernel
theorem dX7_wayDown_138 : decode cX7_wayDown 138 = .ok (.iastore, 1) := by decide +kernel
theorem dX7_wayDown_139 : decode cX7_wayDown 139 = .ok (.iload 9, 2) := by decide +kernel
theorem dX7_wayDown_141 : decode cX7_wayDown 141 = .ok (.istore 7, 2) := by decide +kernel
theorem dX7_wayDown_143 : decode cX7_wayDown 143 = .ok (.aload_n 0, 1) := by decide +kernel
theorem dX7_wayDown_144 : decode cX7_wayDown 144 = .ok (.dup, 1) := by decide +kernel
theorem dX7_wayDown_145 : decode cX7_wayDown 145 = .ok (.getfield 43, 3) := by decide +kernel
theorem dX7_wayDown_148 : decode cX7_wayDown 148 = .ok (.iconst 1, 1) := by decide +kernel
theorem dX7_wayDown_149 : decode cX7_wayDown 149 = .ok (.iadd, 1) := by decide +kernel
theorem dX7_wayDown_150 : decode cX7_wayDown 150 = .ok (.putfield 43, 3) := by decide +kernel
theorem dX7_wayDown_153 : decode cX7_wayDown 153 = .ok (.iinc 8 1, 3) := by decide +kernel
theorem dX7_wayDown_156 : decode cX7_wayDown 156 = .ok (.goto (-139), 3) := by decide +kernel
theorem dX7_wayDown_159 : decode cX7_wayDown 159 = .ok (.iload 6, 2) := by decide +kernel
theorem dX7_wayDown_161 : decode cX7_wayDown 161 = .ok (.ireturn, 1) := by decide +kernel
theorem dX8_init_0 : decode cX8_init 0 = .ok (.aload_n 0, 1) := by decide +kernel
theorem dX8_init_1 : decode cX8_init 1 = .ok (.invokespecial 5, 3) := by decide +kernel
theorem dX8_init_4 : decode cX8_init 4 = .ok (.aload_n 0, 1) := by decide +kernel
theorem dX8_init_5 : decode cX8_init 5 = .ok (.bipush 40, 2) := by decide +kernel
theorem dX8_init_7 : decode cX8_init 7 = .ok (.newarray .int, 2) := by decide +kernel
theorem dX8_init_9 : decode cX8_init 9 = .ok (.putfield 11, 3) := by decide +kernel
theorem dX8_init_12 : decode cX8_init 12 = .ok (.aload_n 0, 1) := by decide +kernel
theorem dX8_init_13 : decode cX8_init 13 = .ok (.bipush 40, 2) := by decide +kernel
theorem dX8_init_15 : decode cX8_init 15 = .ok (.newarray .int, 2) := by decide +kernel
theorem dX8_init_17 : decode cX8_init 17 = .ok (.putfield 15, 3) := by decide +kernel
theorem dX8_init_20 : decode cX8_init 20 = .ok (.aload_n 0, 1) := by decide +kernel
theorem dX8_init_21 : decode cX8_init 21 = .ok (.bipush 40, 2) := by decide +kernel
theorem dX8_init_23 : decode cX8_init 23 = .ok (.newarray .int, 2) := by decide +kernel
theorem dX8_init_25 : decode cX8_init 25 = .ok (.putfield 18, 3) := by decide +kernel
theorem dX8_init_28 : decode cX8_init 28 = .ok (.aload_n 0, 1) := by decide +kernel
theorem dX8_init_29 : decode cX8_init 29 = .ok (.iconst 0, 1) := by decide +kernel
theorem dX8_init_30 : decode cX8_init 30 = .ok (.putfield 21, 3) := by decide +kernel
theorem dX8_init_33 : decode cX8_init 33 = .ok (.aload_n 0, 1) := by decide +kernel
theorem dX8_init_34 : decode cX8_init 34 = .ok (.iconst 0, 1) := by decide +kernel
theorem dX8_init_35 : decode cX8_init 35 = .ok (.putfield 25, 3) := by decide +kernel
theorem dX8_init_38 : decode cX8_init 38 = .ok (.return_, 1) := by decide +kernel
theorem dX8_readCond_0 : decode cX8_readCond 0 = .ok (.aload_n 0, 1) := by decide +kernel
theorem dX8_readCond_1 : decode cX8_readCond 1 = .ok (.aload_n 1, 1) := by decide +kernel
theorem dX8_readCond_2 : decode cX8_readCond 2 = .ok (.aload_n 2, 1) := by decide +kernel
theorem dX8_readCond_3 : decode cX8_readCond 3 = .ok (.iload_n 3, 1) := by decide +kernel
theorem dX8_readCond_4 : decode cX8_readCond 4 = .ok (.invokevirtual 28, 3) := by decide +kernel
theorem dX8_readCond_7 : decode cX8_readCond 7 = .ok (.ifCond .ne 5, 3) := by decide +kernel
theorem dX8_readCond_10 : decode cX8_readCond 10 = .ok (.iconst 0, 1) := by decide +kernel
theorem dX8_readCond_11 : decode cX8_readCond 11 = .ok (.ireturn, 1) := by decide +kernel
theorem dX8_readCond_12 : decode cX8_readCond 12 = .ok (.iconst 0, 1) := by decide +kernel
theorem dX8_readCond_13 : decode cX8_readCond 13 = .ok (.istore 4, 2) := by decide +kernel
theorem dX8_readCond_15 : decode cX8_readCond 15 = .ok (.iload 4, 2) := by decide +kernel
theorem dX8_readCond_17 : decode cX8_readCond 17 = .ok (.sipush 200, 3) := by decide +kernel
theorem dX8_readCond_20 : decode cX8_readCond 20 = .ok (.if_icmp .ge 43, 3) := by decide +kernel
theorem dX8_readCond_23 : decode cX8_readCond 23 = .ok (.aload_n 1, 1) := by decide +kernel
theorem dX8_readCond_24 : decode cX8_readCond 24 = .ok (.invokevirtual 32, 3) := by decide +kernel
theorem dX8_readCond_27 : decode cX8_readCond 27 = .ok (.bipush 14, 2) := by decide +kernel
theorem dX8_readCond_29 : decode cX8_readCond 29 = .ok (.if_icmp .ne 34, 3) := by decide +kernel
theorem dX8_readCond_32 : decode cX8_readCond 32 = .ok (.aload_n 1, 1) := by decide +kernel
theorem dX8_readCond_33 : decode cX8_readCond 33 = .ok (.invokevirtual 38, 3) := by decide +kernel
theorem dX8_readCond_36 : decode cX8_readCond 36 = .ok (.aload_n 0, 1) := by decide +kernel
theorem dX8_readCond_37 : decode cX8_readCond 37 = .ok (.aload_n 1, 1) := by decide +kernel
theorem dX8_readCond_38 : decode cX8_readCond 38 = .ok (.aload_n 2, 1) := by decide +kernel
theorem dX8_readCond_39 : decode cX8_readCond 39 = .ok (.iload_n 3, 1) := by decide +kernel
theorem dX8_readCond_40 : decode cX8_readCond 40 = .ok (.invokevirtual 28, 3) := by decide +kernel
theorem dX8_readCond_43 : decode cX8_readCond 43 = .ok (.ifCond .ne 5, 3) := by decide +kernel
theorem dX8_readCond_46 : decode cX8_readCond 46 = .ok (.iconst 0, 1) := by decide +kernel
theorem dX8_readCond_47 : decode cX8_readCond 47 = .ok (.ireturn, 1) := by decide +kernel
theorem dX8_readCond_48 : decode cX8_readCond 48 = .ok (.aload_n 0, 1) := by decide +kernel
theorem dX8_readCond_49 : decode cX8_readCond 49 = .ok (.bipush 14, 2) := by decide +kernel
theorem dX8_readCond_51 : decode cX8_readCond 51 = .ok (.iconst 0, 1) := by decide +kernel
theorem dX8_readCond_52 : decode cX8_readCond 52 = .ok (.iconst 0, 1) := by decide +kernel
theorem dX8_readCond_53 : decode cX8_readCond 53 = .ok (.invokevirtual 41, 3) := by decide +kernel
theorem dX8_readCond_56 : decode cX8_readCond 56 = .ok (.pop, 1) := by decide +kernel
theorem dX8_readCond_57 : decode cX8_readCond 57 = .ok (.iinc 4 1, 3) := by decide +kernel
theorem dX8_readCond_60 : decode cX8_readCond 60 = .ok (.goto (-45), 3) := by decide +kernel
theorem dX8_readCond_63 : decode cX8_readCond 63 = .ok (.iload_n 3, 1) := by decide +kernel
theorem dX8_readCond_64 : decode cX8_readCond 64 = .ok (.iconst 1, 1) := by decide +kernel
theorem dX8_readCond_65 : decode cX8_readCond 65 = .ok (.if_icmp .gt 18, 3) := by decide +kernel
theorem dX8_readCond_68 : decode cX8_readCond 68 = .ok (.aload_n 1, 1) := by decide +kernel
theorem dX8_readCond_69 : decode cX8_readCond 69 = .ok (.getfield 45, 3) := by decide +kernel
theorem dX8_readCond_72 : decode cX8_readCond 72 = .ok (.ifCond .eq 11, 3) := by decide +kernel
theorem dX8_readCond_75 : decode cX8_readCond 75 = .ok (.aload_n 1, 1) := by decide +kernel
theorem dX8_readCond_76 : decode cX8_readCond 76 = .ok (.iconst 1, 1) := by decide +kernel
theorem dX8_readCond_77 : decode cX8_readCond 77 = .ok (.invokevirtual 48, 3) := by decide +kernel
theorem dX8_readCond_80 : decode cX8_readCond 80 = .ok (.ifCond .eq 7, 3) := by decide +kernel
theorem dX8_readCond_83 : decode cX8_readCond 83 = .ok (.iconst 1, 1) := by decide +kernel
theorem dX8_readCond_84 : decode cX8_readCond 84 = .ok (.goto 4, 3) := by decide +kernel
theorem dX8_readCond_87 : decode cX8_readCond 87 = .ok (.iconst 0, 1) := by decide +kernel
theorem dX8_readCond_88 : decode cX8_readCond 88 = .ok (.ireturn, 1) := by decide +kernel
theorem dX8_readAll_0 : decode cX8_readAll 0 = .ok (.aload_n 0, 1) := by decide +kernel
theorem dX8_readAll_1 : decode cX8_readAll 1 = .ok (.aload_n 1, 1) := by decide +kernel
theorem dX8_readAll_2 : decode cX8_readAll 2 = .ok (.aload_n 2, 1) := by decide +kernel
theorem dX8_readAll_3 : decode cX8_readAll 3 = .ok (.iload_n 3, 1) := by decide +kernel
theorem dX8_readAll_4 : decode cX8_readAll 4 = .ok (.invokevirtual 52, 3) := by decide +kernel
theorem dX8_readAll_7 : decode cX8_readAll 7 = .ok (.ifCond .ne 5, 3) := by decide +kernel
theorem dX8_readAll_10 : decode cX8_readAll 10 = .ok (.iconst 0, 1) := by decide +kernel
theorem dX8_readAll_11 : decode cX8_readAll 11 = .ok (.ireturn, 1) := by decide +kernel
theorem dX8_readAll_12 : decode cX8_readAll 12 = .ok (.iconst 0, 1) := by decide +kernel
theorem dX8_readAll_13 : decode cX8_readAll 13 = .ok (.istore 4, 2) := by decide +kernel
theorem dX8_readAll_15 : decode cX8_readAll 15 = .ok (.iload 4, 2) := by decide +kernel
theorem dX8_readAll_17 : decode cX8_readAll 17 = .ok (.sipush 200, 3) := by decide +kernel
theorem dX8_readAll_20 : decode cX8_readAll 20 = .ok (.if_icmp .ge 43, 3) := by decide +kernel
theorem dX8_readAll_23 : decode cX8_readAll 23 = .ok (.aload_n 1, 1) := by decide +kernel
theorem dX8_readAll_24 : decode cX8_readAll 24 = .ok (.invokevirtual 32, 3) := by decide +kernel
theorem dX8_readAll_27 : decode cX8_readAll 27 = .ok (.bipush 15, 2) := by decide +kernel
theorem dX8_readAll_29 : decode cX8_readAll 29 = .ok (.if_icmp .ne 34, 3) := by decide +kernel
theorem dX8_readAll_32 : decode cX8_readAll 32 = .ok (.aload_n 1, 1) := by decide +kernel
theorem dX8_readAll_33 : decode cX8_readAll 33 = .ok (.invokevirtual 38, 3) := by decide +kernel
theorem dX8_readAll_36 : decode cX8_readAll 36 = .ok (.aload_n 0, 1) := by decide +kernel
theorem dX8_readAll_37 : decode cX8_readAll 37 = .ok (.aload_n 1, 1) := by decide +kernel
theorem dX8_readAll_38 : decode cX8_readAll 38 = .ok (.aload_n 2, 1) := by decide +kernel
theorem dX8_readAll_39 : decode cX8_readAll 39 = .ok (.iload_n 3, 1) := by decide +kernel
theorem dX8_readAll_40 : decode cX8_readAll 40 = .ok (.invokevirtual 52, 3) := by decide +kernel
theorem dX8_readAll_43 : decode cX8_readAll 43 = .ok (.ifCond .ne 5, 3) := by decide +kernel
theorem dX8_readAll_46 : decode cX8_readAll 46 = .ok (.iconst 0, 1) := by decide +kernel
theorem dX8_readAll_47 : decode cX8_readAll 47 = .ok (.ireturn, 1) := by decide +kernel
theorem dX8_readAll_48 : decode cX8_readAll 48 = .ok (.aload_n 0, 1) := by decide +kernel
theorem dX8_readAll_49 : decode cX8_readAll 49 = .ok (.bipush 15, 2) := by decide +kernel
theorem dX8_readAll_51 : decode cX8_readAll 51 = .ok (.iconst 0, 1) := by decide +kernel
theorem dX8_readAll_52 : decode cX8_readAll 52 = .ok (.iconst 0, 1) := by decide +kernel
theorem dX8_readAll_53 : decode cX8_readAll 53 = .ok (.invokevirtual 41, 3) := by decide +kernel
theorem dX8_readAll_56 : decode cX8_readAll 56 = .ok (.pop, 1) := by decide +kernel
theorem dX8_readAll_57 : decode cX8_readAll 57 = .ok (.iinc 4 1, 3) := by decide +kernel
theorem dX8_readAll_60 : decode cX8_readAll 60 = .ok (.goto (-45), 3) := by decide +kernel
theorem dX8_readAll_63 : decode cX8_readAll 63 = .ok (.iconst 1, 1) := by decide +kernel
theorem dX8_readAll_64 : decode cX8_readAll 64 = .ok (.ireturn, 1) := by decide +kernel
theorem dX8_readOne_0 : decode cX8_readOne 0 = .ok (.aload_n 1, 1) := by decide +kernel
theorem dX8_readOne_1 : decode cX8_readOne 1 = .ok (.getfield 45, 3) := by decide +kernel
theorem dX8_readOne_4 : decode cX8_readOne 4 = .ok (.bipush 40, 2) := by decide +kernel
theorem dX8_readOne_6 : decode cX8_readOne 6 = .ok (.if_icmp .ne 7, 3) := by decide +kernel
theorem dX8_readOne_9 : decode cX8_readOne 9 = .ok (.iconst 1, 1) := by decide +kernel
theorem dX8_readOne_10 : decode cX8_readOne 10 = .ok (.goto 4, 3) := by decide +kernel
theorem dX8_readOne_13 : decode cX8_readOne 13 = .ok (.iconst 0, 1) := by decide +kernel
theorem dX8_readOne_14 : decode cX8_readOne 14 = .ok (.istore 4, 2) := by decide +kernel
theorem dX8_readOne_16 : decode cX8_readOne 16 = .ok (.aload_n 1, 1) := by decide +kernel
theorem dX8_readOne_17 : decode cX8_readOne 17 = .ok (.invokevirtual 32, 3) := by decide +kernel
theorem dX8_readOne_20 : decode cX8_readOne 20 = .ok (.istore 5, 2) := by decide +kernel
theorem dX8_readOne_22 : decode cX8_readOne 22 = .ok (.iload 4, 2) := by decide +kernel
theorem dX8_readOne_24 : decode cX8_readOne 24 = .ok (.ifCond .ne 17, 3) := by decide +kernel
theorem dX8_readOne_27 : decode cX8_readOne 27 = .ok (.iload 5, 2) := by decide +kernel
theorem dX8_readOne_29 : decode cX8_readOne 29 = .ok (.invokestatic 55, 3) := by decide +kernel
theorem dX8_readOne_32 : decode cX8_readOne 32 = .ok (.ifCond .ne 9, 3) := by decide +kernel
theorem dX8_readOne_35 : decode cX8_readOne 35 = .ok (.aload_n 1, 1) := by decide +kernel
theorem dX8_readOne_36 : decode cX8_readOne 36 = .ok (.iconst 1, 1) := by decide +kernel
theorem dX8_readOne_37 : decode cX8_readOne 37 = .ok (.invokevirtual 48, 3) := by decide +kernel
theorem dX8_readOne_40 : decode cX8_readOne 40 = .ok (.ireturn, 1) := by decide +kernel
theorem dX8_readOne_41 : decode cX8_readOne 41 = .ok (.aload_n 0, 1) := by decide +kernel
theorem dX8_readOne_42 : decode cX8_readOne 42 = .ok (.getfield 25, 3) := by decide +kernel
theorem dX8_readOne_45 : decode cX8_readOne 45 = .ok (.bipush 20, 2) := by decide +kernel
theorem dX8_readOne_47 : decode cX8_readOne 47 = .ok (.if_icmp .ge 9, 3) := by decide +kernel
theorem dX8_readOne_50 : decode cX8_readOne 50 = .ok (.iload_n 3, 1) := by decide +kernel
theorem dX8_readOne_51 : decode cX8_readOne 51 = .ok (.bipush 8, 2) := by decide +kernel
theorem dX8_readOne_53 : decode cX8_readOne 53 = .ok (.if_icmp .le 9, 3) := by decide +kernel
theorem dX8_readOne_56 : decode cX8_readOne 56 = .ok (.aload_n 1, 1) := by decide +kernel
theorem dX8_readOne_57 : decode cX8_readOne 57 = .ok (.iconst 4, 1) := by decide +kernel
theorem dX8_readOne_58 : decode cX8_readOne 58 = .ok (.invokevirtual 48, 3) := by decide +kernel
theorem dX8_readOne_61 : decode cX8_readOne 61 = .ok (.ireturn, 1) := by decide +kernel
theorem dX8_readOne_62 : decode cX8_readOne 62 = .ok (.aload_n 0, 1) := by decide +kernel
theorem dX8_readOne_63 : decode cX8_readOne 63 = .ok (.dup, 1) := by decide +kernel
theorem dX8_readOne_64 : decode cX8_readOne 64 = .ok (.getfield 25, 3) := by decide +kernel
theorem dX8_readOne_67 : decode cX8_readOne 67 = .ok (.iconst 1, 1) := by decide +kernel
theorem dX8_readOne_68 : decode cX8_readOne 68 = .ok (.iadd, 1) := by decide +kernel
theorem dX8_readOne_69 : decode cX8_readOne 69 = .ok (.putfield 25, 3) := by decide +kernel
theorem dX8_readOne_72 : decode cX8_readOne 72 = .ok (.aload_n 1, 1) := by decide +kernel
theorem dX8_readOne_73 : decode cX8_readOne 73 = .ok (.invokevirtual 38, 3) := by decide +kernel
theorem dX8_readOne_76 : decode cX8_readOne 76 = .ok (.iload 4, 2) := by decide +kernel
theorem dX8_readOne_78 : decode cX8_readOne 78 = .ok (.ifCond .eq 30, 3) := by decide +kernel
theorem dX8_readOne_81 : decode cX8_readOne 81 = .ok (.aload_n 0, 1) := by decide +kernel
theorem dX8_readOne_82 : decode cX8_readOne 82 = .ok (.aload_n 1, 1) := by decide +kernel
theorem dX8_readOne_83 : decode cX8_readOne 83 = .ok (.aload_n 2, 1) := by decide +kernel
theorem dX8_readOne_84 : decode cX8_readOne 84 = .ok (.iload_n 3, 1) := by decide +kernel
theorem dX8_readOne_85 : decode cX8_readOne 85 = .ok (.iconst 1, 1) := by decide +kernel
theorem dX8_readOne_86 : decode cX8_readOne 86 = .ok (.iadd, 1) := by decide +kernel
theorem dX8_readOne_87 : decode cX8_readOne 87 = .ok (.invokevirtual 58, 3) := by decide +kernel
theorem dX8_readOne_90 : decode cX8_readOne 90 = .ok (.ifCond .eq 16, 3) := by decide +kernel
theorem dX8_readOne_93 : decode cX8_readOne 93 = .ok (.aload_n 1, 1) := by decide +kernel
theorem dX8_readOne_94 : decode cX8_readOne 94 = .ok (.bipush 41, 2) := by decide +kernel
theorem dX8_readOne_96 : decode cX8_readOne 96 = .ok (.invokevirtual 61, 3) := by decide +kernel
theorem dX8_readOne_99 : decode cX8_readOne 99 = .ok (.ifCond .eq 7, 3) := by decide +kernel
theorem dX8_readOne_102 : decode cX8_readOne 102 = .ok (.iconst 1, 1) := by decide +kernel
theorem dX8_readOne_103 : decode cX8_readOne 103 = .ok (.goto 4, 3) := by decide +kernel
theorem dX8_readOne_106 : decode cX8_readOne 106 = .ok (.iconst 0, 1) := by decide +kernel
theorem dX8_readOne_107 : decode cX8_readOne 107 = .ok (.ireturn, 1) := by decide +kernel
theorem dX8_readOne_108 : decode cX8_readOne 108 = .ok (.iload 5, 2) := by decide +kernel
theorem dX8_readOne_110 : decode cX8_readOne 110 = .ok (.bipush 16, 2) := by decide +kernel
theorem dX8_readOne_112 : decode cX8_readOne 112 = .ok (.if_icmp .ne 32, 3) := by decide +kernel
theorem dX8_readOne_115 : decode cX8_readOne 115 = .ok (.aload_n 0, 1) := by decide +kernel
theorem dX8_readOne_116 : decode cX8_readOne 116 = .ok (.aload_n 1, 1) := by decide +kernel
theorem dX8_readOne_117 : decode cX8_readOne 117 = .ok (.aload_n 2, 1) := by decide +kernel
theorem dX8_readOne_118 : decode cX8_readOne 118 = .ok (.iload_n 3, 1) := by decide +kernel
theorem dX8_readOne_119 : decode cX8_readOne 119 = .ok (.iconst 1, 1) := by decide +kernel
theorem dX8_readOne_120 : decode cX8_readOne 120 = .ok (.iadd, 1) := by decide +kernel
theorem dX8_readOne_121 : decode cX8_readOne 121 = .ok (.invokevirtual 52, 3) := by decide +kernel
theorem dX8_readOne_124 : decode cX8_readOne 124 = .ok (.ifCond .eq 18, 3) := by decide +kernel
theorem dX8_readOne_127 : decode cX8_readOne 127 = .ok (.aload_n 0, 1) := by decide +kernel
theorem dX8_readOne_128 : decode cX8_readOne 128 = .ok (.bipush 16, 2) := by decide +kernel
theorem dX8_readOne_130 : decode cX8_readOne 130 = .ok (.iconst 0, 1) := by decide +kernel
theorem dX8_readOne_131 : decode cX8_readOne 131 = .ok (.iconst 0, 1) := by decide +kernel
theorem dX8_readOne_132 : decode cX8_readOne 132 = .ok (.invokevirtual 41, 3) := by decide +kernel
theorem dX8_readOne_135 : decode cX8_readOne 135 = .ok (.ifCond .eq 7, 3) := by decide +kernel
theorem dX8_readOne_138 : decode cX8_readOne 138 = .ok (.iconst 1, 1) := by decide +kernel
theorem dX8_readOne_139 : decode cX8_readOne 139 = .ok (.goto 4, 3) := by decide +kernel
theorem dX8_readOne_142 : decode cX8_readOne 142 = .ok (.iconst 0, 1) := by decide +kernel
theorem dX8_readOne_143 : decode cX8_readOne 143 = .ok (.ireturn, 1) := by decide +kernel
theorem dX8_readOne_144 : decode cX8_readOne 144 = .ok (.iload 5, 2) := by decide +kernel
theorem dX8_readOne_146 : decode cX8_readOne 146 = .ok (.bipush 18, 2) := by decide +kernel
theorem dX8_readOne_148 : decode cX8_readOne 148 = .ok (.if_icmp .ne 10, 3) := by decide +kernel
theorem dX8_readOne_151 : decode cX8_readOne 151 = .ok (.aload_n 0, 1) := by decide +kernel
theorem dX8_readOne_152 : decode cX8_readOne 152 = .ok (.aload_n 1, 1) := by decide +kernel
theorem dX8_readOne_153 : decode cX8_readOne 153 = .ok (.aload_n 2, 1) := by decide +kernel
theorem dX8_readOne_154 : decode cX8_readOne 154 = .ok (.invokevirtual 64, 3) := by decide +kernel
theorem dX8_readOne_157 : decode cX8_readOne 157 = .ok (.ireturn, 1) := by decide +kernel
theorem dX8_readOne_158 : decode cX8_readOne 158 = .ok (.iload 5, 2) := by decide +kernel
theorem dX8_readOne_160 : decode cX8_readOne 160 = .ok (.bipush 19, 2) := by decide +kernel
theorem dX8_readOne_162 : decode cX8_readOne 162 = .ok (.if_icmp .lt 11, 3) := by decide +kernel
theorem dX8_readOne_165 : decode cX8_readOne 165 = .ok (.aload_n 0, 1) := by decide +kernel
theorem dX8_readOne_166 : decode cX8_readOne 166 = .ok (.aload_n 1, 1) := by decide +kernel
theorem dX8_readOne_167 : decode cX8_readOne 167 = .ok (.iload 5, 2) := by decide +kernel
theorem dX8_readOne_169 : decode cX8_readOne 169 = .ok (.invokevirtual 68, 3) := by decide +kernel
theorem dX8_readOne_172 : decode cX8_readOne 172 = .ok (.ireturn, 1) := by decide +kernel
theorem dX8_readOne_173 : decode cX8_readOne 173 = .ok (.aload_n 0, 1) := by decide +kernel
theorem dX8_readOne_174 : decode cX8_readOne 174 = .ok (.iload 5, 2) := by decide +kernel
theorem dX8_readOne_176 : decode cX8_readOne 176 = .ok (.iconst 0, 1) := by decide +kernel
theorem dX8_readOne_177 : decode cX8_readOne 177 = .ok (.iconst 0, 1) := by decide +kernel
theorem dX8_readOne_178 : decode cX8_readOne 178 = .ok (.invokevirtual 41, 3) := by decide +kernel
theorem dX8_readOne_181 : decode cX8_readOne 181 = .ok (.ireturn, 1) := by decide +kernel
theorem dX8_beginsOne_0 : decode cX8_beginsOne 0 = .ok (.iload_n 0, 1) := by decide +kernel
theorem dX8_beginsOne_1 : decode cX8_beginsOne 1 = .ok (.bipush 8, 2) := by decide +kernel
theorem dX8_beginsOne_3 : decode cX8_beginsOne 3 = .ok (.if_icmp .eq 9, 3) := by decide +kernel
theorem dX8_beginsOne_6 : decode cX8_beginsOne 6 = .ok (.iload_n 0, 1) := by decide +kernel
theorem dX8_beginsOne_7 : decode cX8_beginsOne 7 = .ok (.bipush 16, 2) := by decide +kernel
theorem dX8_beginsOne_9 : decode cX8_beginsOne 9 = .ok (.if_icmp .lt 7, 3) := by decide +kernel
theorem dX8_beginsOne_12 : decode cX8_beginsOne 12 = .ok (.iconst 1, 1) := by decide +kernel
theorem dX8_beginsOne_13 : decode cX8_beginsOne 13 = .ok (.goto 4, 3) := by decide +kernel
theorem dX8_beginsOne_16 : decode cX8_beginsOne 16 = .ok (.iconst 0, 1) := by decide +kernel
theorem dX8_beginsOne_17 : decode cX8_beginsOne 17 = .ok (.ireturn, 1) := by decide +kernel
theorem dX8_readAhead_0 : decode cX8_readAhead 0 = .ok (.aload_n 1, 1) := by decide +kernel
theorem dX8_readAhead_1 : decode cX8_readAhead 1 = .ok (.invokevirtual 72, 3) := by decide +kernel
theorem dX8_readAhead_4 : decode cX8_readAhead 4 = .ok (.ifCond .ne 9, 3) := by decide +kernel
theorem dX8_readAhead_7 : decode cX8_readAhead 7 = .ok (.aload_n 1, 1) := by decide +kernel
theorem dX8_readAhead_8 : decode cX8_readAhead 8 = .ok (.iconst 1, 1) := by decide +kernel
theorem dX8_readAhead_9 : decode cX8_readAhead 9 = .ok (.invokevirtual 48, 3) := by decide +kernel
theorem dX8_readAhead_12 : decode cX8_readAhead 12 = .ok (.ireturn, 1) := by decide +kernel
theorem dX8_readAhead_13 : decode cX8_readAhead 13 = .ok (.aload_n 2, 1) := by decide +kernel
theorem dX8_readAhead_14 : decode cX8_readAhead 14 = .ok (.aload_n 1, 1) := by decide +kernel
theorem dX8_readAhead_15 : decode cX8_readAhead 15 = .ok (.getfield 76, 3) := by decide +kernel
theorem dX8_readAhead_18 : decode cX8_readAhead 18 = .ok (.invokevirtual 80, 3) := by decide +kernel
theorem dX8_readAhead_21 : decode cX8_readAhead 21 = .ok (.istore_n 3, 1) := by decide +kernel
theorem dX8_readAhead_22 : decode cX8_readAhead 22 = .ok (.iload_n 3, 1) := by decide +kernel
theorem dX8_readAhead_23 : decode cX8_readAhead 23 = .ok (.iconst (-1), 1) := by decide +kernel
theorem dX8_readAhead_24 : decode cX8_readAhead 24 = .ok (.if_icmp .ne 9, 3) := by decide +kernel
theorem dX8_readAhead_27 : decode cX8_readAhead 27 = .ok (.aload_n 1, 1) := by decide +kernel
theorem dX8_readAhead_28 : decode cX8_readAhead 28 = .ok (.iconst 3, 1) := by decide +kernel
theorem dX8_readAhead_29 : decode cX8_readAhead 29 = .ok (.invokevirtual 48, 3) := by decide +kernel
theorem dX8_readAhead_32 : decode cX8_readAhead 32 = .ok (.ireturn, 1) := by decide +kernel
theorem dX8_readAhead_33 : decode cX8_readAhead 33 = .ok (.aload_n 1, 1) := by decide +kernel
theorem dX8_readAhead_34 : decode cX8_readAhead 34 = .ok (.invokevirtual 38, 3) := by decide +kernel
theorem dX8_readAhead_37 : decode cX8_readAhead 37 = .ok (.aload_n 0, 1) := by decide +kernel
theorem dX8_readAhead_38 : decode cX8_readAhead 38 = .ok (.bipush 18, 2) := by decide +kernel
theorem dX8_readAhead_40 : decode cX8_readAhead 40 = .ok (.iconst 0, 1) := by decide +kernel
theorem dX8_readAhead_41 : decode cX8_readAhead 41 = .ok (.iload_n 3, 1) := by decide +kernel
theorem dX8_readAhead_42 : decode cX8_readAhead 42 = .ok (.invokevirtual 41, 3) := by decide +kernel
theorem dX8_readAhead_45 : decode cX8_readAhead 45 = .ok (.ireturn, 1) := by decide +kernel
theorem dX8_readCompared_0 : decode cX8_readCompared 0 = .ok (.aload_n 1, 1) := by decide +kernel
theorem dX8_readCompared_1 : decode cX8_readCompared 1 = .ok (.getfield 45, 3) := by decide +kernel
theorem dX8_readCompared_4 : decode cX8_readCompared 4 = .ok (.istore_n 3, 1) := by decide +kernel
theorem dX8_readCompared_5 : decode cX8_readCompared 5 = .ok (.iload_n 3, 1) := by decide +kernel
theorem dX8_readCompared_6 : decode cX8_readCompared 6 = .ok (.bipush 60, 2) := by decide +kernel
theorem dX8_readCompared_8 : decode cX8_readCompared 8 = .ok (.if_icmp .eq 21, 3) := by decide +kernel
theorem dX8_readCompared_11 : decode cX8_readCompared 11 = .ok (.iload_n 3, 1) := by decide +kernel
theorem dX8_readCompared_12 : decode cX8_readCompared 12 = .ok (.bipush 61, 2) := by decide +kernel
theorem dX8_readCompared_14 : decode cX8_readCompared 14 = .ok (.if_icmp .eq 15, 3) := by decide +kernel
theorem dX8_readCompared_17 : decode cX8_readCompared 17 = .ok (.iload_n 3, 1) := by decide +kernel
theorem dX8_readCompared_18 : decode cX8_readCompared 18 = .ok (.bipush 62, 2) := by decide +kernel
theorem dX8_readCompared_20 : decode cX8_readCompared 20 = .ok (.if_icmp .eq 9, 3) := by decide +kernel
theorem dX8_readCompared_23 : decode cX8_readCompared 23 = .ok (.aload_n 1, 1) := by decide +kernel
theorem dX8_readCompared_24 : decode cX8_readCompared 24 = .ok (.iconst 1, 1) := by decide +kernel
theorem dX8_readCompared_25 : decode cX8_readCompared 25 = .ok (.invokevirtual 48, 3) := by decide +kernel
theorem dX8_readCompared_28 : decode cX8_readCompared 28 = .ok (.ireturn, 1) := by decide +kernel
theorem dX8_readCompared_29 : decode cX8_readCompared 29 = .ok (.aload_n 1, 1) := by decide +kernel
theorem dX8_readCompared_30 : decode cX8_readCompared 30 = .ok (.invokevirtual 38, 3) := by decide +kernel
theorem dX8_readCompared_33 : decode cX8_readCompared 33 = .ok (.aload_n 1, 1) := by decide +kernel
theorem dX8_readCompared_34 : decode cX8_readCompared 34 = .ok (.iconst 0, 1) := by decide +kernel
theorem dX8_readCompared_35 : decode cX8_readCompared 35 = .ok (.sipush 999, 3) := by decide +kernel
theorem dX8_readCompared_38 : decode cX8_readCompared 38 = .ok (.invokevirtual 86, 3) := by decide +kernel
theorem dX8_readCompared_41 : decode cX8_readCompared 41 = .ok (.ifCond .eq 20, 3) := by decide +kernel
theorem dX8_readCompared_44 : decode cX8_readCompared 44 = .ok (.aload_n 0, 1) := by decide +kernel
theorem dX8_readCompared_45 : decode cX8_readCompared 45 = .ok (.iload_n 2, 1) := by decide +kernel
theorem dX8_readCompared_46 : decode cX8_readCompared 46 = .ok (.iload_n 3, 1) := by decide +kernel
theorem dX8_readCompared_47 : decode cX8_readCompared 47 = .ok (.aload_n 1, 1) := by decide +kernel
theorem dX8_readCompared_48 : decode cX8_readCompared 48 = .ok (.getfield 90, 3) := by decide +kernel
theorem dX8_readCompared_51 : decode cX8_readCompared 51 = .ok (.invokevirtual 41, 3) := by decide +kernel
theorem dX8_readCompared_54 : decode cX8_readCompared 54 = .ok (.ifCond .eq 7, 3) := by decide +kernel
theorem dX8_readCompared_57 : decode cX8_readCompared 57 = .ok (.iconst 1, 1) := by decide +kernel
theorem dX8_readCompared_58 : decode cX8_readCompared 58 = .ok (.goto 4, 3) := by decide +kernel
theorem dX8_readCompared_61 : decode cX8_readCompared 61 = .ok (.iconst 0, 1) := by decide +kernel
theorem dX8_readCompared_62 : decode cX8_readCompared 62 = .ok (.ireturn, 1) := by decide +kernel
theorem dX8_addStep_0 : decode cX8_addStep 0 = .ok (.aload_n 0, 1) := by decide +kernel
theorem dX8_addStep_1 : decode cX8_addStep 1 = .ok (.getfield 21, 3) := by decide +kernel
theorem dX8_addStep_4 : decode cX8_addStep 4 = .ok (.bipush 40, 2) := by decide +kernel
theorem dX8_addStep_6 : decode cX8_addStep 6 = .ok (.if_icmp .ge 43, 3) := by decide +kernel
theorem dX8_addStep_9 : decode cX8_addStep 9 = .ok (.aload_n 0, 1) := by decide +kernel
theorem dX8_addStep_10 : decode cX8_addStep 10 = .ok (.getfield 11, 3) := by decide +kernel
theorem dX8_addStep_13 : decode cX8_addStep 13 = .ok (.aload_n 0, 1) := by decide +kernel
theorem dX8_addStep_14 : decode cX8_addStep 14 = .ok (.getfield 21, 3) := by decide +kernel
theorem dX8_addStep_17 : decode cX8_addStep 17 = .ok (.iload_n 1, 1) := by decide +kernel
theorem dX8_addStep_18 : decode cX8_addStep 18 = .ok (.iastore, 1) := by decide +kernel
theorem dX8_addStep_19 : decode cX8_addStep 19 = .ok (.aload_n 0, 1) := by decide +kernel
theorem dX8_addStep_20 : decode cX8_addStep 20 = .ok (.getfield 15, 3) := by decide +kernel
theorem dX8_addStep_23 : decode cX8_addStep 23 = .ok (.aload_n 0, 1) := by decide +kernel
theorem dX8_addStep_24 : decode cX8_addStep 24 = .ok (.getfield 21, 3) := by decide +kernel
theorem dX8_addStep_27 : decode cX8_addStep 27 = .ok (.iload_n 2, 1) := by decide +kernel
theorem dX8_addStep_28 : decode cX8_addStep 28 = .ok (.iastore, 1) := by decide +kernel
theorem dX8_addStep_29 : decode cX8_addStep 29 = .ok (.aload_n 0, 1) := by decide +kernel
theorem dX8_addStep_30 : decode cX8_addStep 30 = .ok (.getfield 18, 3) := by decide +kernel
theorem dX8_addStep_33 : decode cX8_addStep 33 = .ok (.aload_n 0, 1) := by decide +kernel
theorem dX8_addStep_34 : decode cX8_addStep 34 = .ok (.getfield 21, 3) := by decide +kernel
theorem dX8_addStep_37 : decode cX8_addStep 37 = .ok (.iload_n 3, 1) := by decide +kernel
theorem dX8_addStep_38 : decode cX8_addStep 38 = .ok (.iastore, 1) := by decide +kernel
theorem dX8_addStep_39 : decode cX8_addStep 39 = .ok (.aload_n 0, 1) := by decide +kernel
theorem dX8_addStep_40 : decode cX8_addStep 40 = .ok (.dup, 1) := by decide +kernel
theorem dX8_addStep_41 : decode cX8_addStep 41 = .ok (.getfield 21, 3) := by decide +kernel
theorem dX8_addStep_44 : decode cX8_addStep 44 = .ok (.iconst 1, 1) := by decide +kernel
theorem dX8_addStep_45 : decode cX8_addStep 45 = .ok (.iadd, 1) := by decide +kernel
theorem dX8_addStep_46 : decode cX8_addStep 46 = .ok (.putfield 21, 3) := by decide +kernel
theorem dX8_addStep_49 : decode cX8_addStep 49 = .ok (.iconst 1, 1) := by decide +kernel
theorem dX8_addStep_50 : decode cX8_addStep 50 = .ok (.ireturn, 1) := by decide +kernel
theorem dX8_holdsOf_0 : decode cX8_holdsOf 0 = .ok (.iconst 0, 1) := by decide +kernel
theorem dX8_holdsOf_1 : decode cX8_holdsOf 1 = .ok (.istore 5, 2) := by decide +kernel
theorem dX8_holdsOf_3 : decode cX8_holdsOf 3 = .ok (.iconst 0, 1) := by decide +kernel
theorem dX8_holdsOf_4 : decode cX8_holdsOf 4 = .ok (.istore 6, 2) := by decide +kernel
theorem dX8_holdsOf_6 : decode cX8_holdsOf 6 = .ok (.iload 6, 2) := by decide +kernel
theorem dX8_holdsOf_8 : decode cX8_holdsOf 8 = .ok (.aload_n 0, 1) := by decide +kernel
theorem dX8_holdsOf_9 : decode cX8_holdsOf 9 = .ok (.getfield 21, 3) := by decide +kernel
theorem dX8_holdsOf_12 : decode cX8_holdsOf 12 = .ok (.if_icmp .ge 123, 3) := by decide +kernel
theorem dX8_holdsOf_15 : decode cX8_holdsOf 15 = .ok (.iload 5, 2) := by decide +kernel
theorem dX8_holdsOf_17 : decode cX8_holdsOf 17 = .ok (.iconst 1, 1) := by decide +kernel
theorem dX8_holdsOf_18 : decode cX8_holdsOf 18 = .ok (.iand, 1) := by decide +kernel
theorem dX8_holdsOf_19 : decode cX8_holdsOf 19 = .ok (.istore 7, 2) := by decide +kernel
theorem dX8_holdsOf_21 : decode cX8_holdsOf 21 = .ok (.iload 5, 2) := by decide +kernel
theorem dX8_holdsOf_23 : decode cX8_holdsOf 23 = .ok (.iconst 1, 1) := by decide +kernel
theorem dX8_holdsOf_24 : decode cX8_holdsOf 24 = .ok (.ishr, 1) := by decide +kernel
theorem dX8_holdsOf_25 : decode cX8_holdsOf 25 = .ok (.istore 8, 2) := by decide +kernel
theorem dX8_holdsOf_27 : decode cX8_holdsOf 27 = .ok (.aload_n 0, 1) := by decide +kernel
theorem dX8_holdsOf_28 : decode cX8_holdsOf 28 = .ok (.getfield 11, 3) := by decide +kernel
theorem dX8_holdsOf_31 : decode cX8_holdsOf 31 = .ok (.iload 6, 2) := by decide +kernel
theorem dX8_holdsOf_33 : decode cX8_holdsOf 33 = .ok (.iaload, 1) := by decide +kernel
theorem dX8_holdsOf_34 : decode cX8_holdsOf 34 = .ok (.bipush 16, 2) := by decide +kernel
theorem dX8_holdsOf_36 : decode cX8_holdsOf 36 = .ok (.if_icmp .ne 12, 3) := by decide +kernel
theorem dX8_holdsOf_39 : decode cX8_holdsOf 39 = .ok (.iload 5, 2) := by decide +kernel
theorem dX8_holdsOf_41 : decode cX8_holdsOf 41 = .ok (.iconst 1, 1) := by decide +kernel
theorem dX8_holdsOf_42 : decode cX8_holdsOf 42 = .ok (.ixor, 1) := by decide +kernel
theorem dX8_holdsOf_43 : decode cX8_holdsOf 43 = .ok (.istore 5, 2) := by decide +kernel
theorem dX8_holdsOf_45 : decode cX8_holdsOf 45 = .ok (.goto 84, 3) := by decide +kernel
theorem dX8_holdsOf_48 : decode cX8_holdsOf 48 = .ok (.aload_n 0, 1) := by decide +kernel
theorem dX8_holdsOf_49 : decode cX8_holdsOf 49 = .ok (.getfield 11, 3) := by decide +kernel
theorem dX8_holdsOf_52 : decode cX8_holdsOf 52 = .ok (.iload 6, 2) := by decide +kernel
theorem dX8_holdsOf_54 : decode cX8_holdsOf 54 = .ok (.iaload, 1) := by decide +kernel
theorem dX8_holdsOf_55 : decode cX8_holdsOf 55 = .ok (.bipush 15, 2) := by decide +kernel
theorem dX8_holdsOf_57 : decode cX8_holdsOf 57 = .ok (.if_icmp .ne 24, 3) := by decide +kernel
theorem dX8_holdsOf_60 : decode cX8_holdsOf 60 = .ok (.iload 7, 2) := by decide +kernel
theorem dX8_holdsOf_62 : decode cX8_holdsOf 62 = .ok (.iconst 1, 1) := by decide +kernel
theorem dX8_holdsOf_63 : decode cX8_holdsOf 63 = .ok (.if_icmp .ne 8, 3) := by decide +kernel
theorem dX8_holdsOf_66 : decode cX8_holdsOf 66 = .ok (.iload 8, 2) := by decide +kernel
theorem dX8_holdsOf_68 : decode cX8_holdsOf 68 = .ok (.goto 8, 3) := by decide +kernel
theorem dX8_holdsOf_71 : decode cX8_holdsOf 71 = .ok (.iload 8, 2) := by decide +kernel
theorem dX8_holdsOf_73 : decode cX8_holdsOf 73 = .ok (.bipush (-2), 2) := by decide +kernel
theorem dX8_holdsOf_75 : decode cX8_holdsOf 75 = .ok (.iand, 1) := by decide +kernel
theorem dX8_holdsOf_76 : decode cX8_holdsOf 76 = .ok (.istore 5, 2) := by decide +kernel
theorem dX8_holdsOf_78 : decode cX8_holdsOf 78 = .ok (.goto 51, 3) := by decide +kernel
theorem dX8_holdsOf_81 : decode cX8_holdsOf 81 = .ok (.aload_n 0, 1) := by decide +kernel
theorem dX8_holdsOf_82 : decode cX8_holdsOf 82 = .ok (.getfield 11, 3) := by decide +kernel
theorem dX8_holdsOf_85 : decode cX8_holdsOf 85 = .ok (.iload 6, 2) := by decide +kernel
theorem dX8_holdsOf_87 : decode cX8_holdsOf 87 = .ok (.iaload, 1) := by decide +kernel
theorem dX8_holdsOf_88 : decode cX8_holdsOf 88 = .ok (.bipush 14, 2) := by decide +kernel
theorem dX8_holdsOf_90 : decode cX8_holdsOf 90 = .ok (.if_icmp .ne 13, 3) := by decide +kernel
theorem dX8_holdsOf_93 : decode cX8_holdsOf 93 = .ok (.iload 8, 2) := by decide +kernel
theorem dX8_holdsOf_95 : decode cX8_holdsOf 95 = .ok (.iload 7, 2) := by decide +kernel
theorem dX8_holdsOf_97 : decode cX8_holdsOf 97 = .ok (.ior, 1) := by decide +kernel
theorem dX8_holdsOf_98 : decode cX8_holdsOf 98 = .ok (.istore 5, 2) := by decide +kernel
theorem dX8_holdsOf_100 : decode cX8_holdsOf 100 = .ok (.goto 29, 3) := by decide +kernel
theorem dX8_holdsOf_103 : decode cX8_holdsOf 103 = .ok (.iload 5, 2) := by decide +kernel
theorem dX8_holdsOf_105 : decode cX8_holdsOf 105 = .ok (.iconst 1, 1) := by decide +kernel
theorem dX8_holdsOf_106 : decode cX8_holdsOf 106 = .ok (.ishl, 1) := by decide +kernel
theorem dX8_holdsOf_107 : decode cX8_holdsOf 107 = .ok (.aload_n 0, 1) := by decide +kernel
theorem dX8_holdsOf_108 : decode cX8_holdsOf 108 = .ok (.iload 6, 2) := by decide +kernel
theorem dX8_holdsOf_110 : decode cX8_holdsOf 110 = .ok (.iload_n 1, 1) := by decide +kernel
theorem dX8_holdsOf_111 : decode cX8_holdsOf 111 = .ok (.aload_n 2, 1) := by decide +kernel
theorem dX8_holdsOf_112 : decode cX8_holdsOf 112 = .ok (.aload_n 3, 1) := by decide +kernel
theorem dX8_holdsOf_113 : decode cX8_holdsOf 113 = .ok (.iload 4, 2) := by decide +kernel
theorem dX8_holdsOf_115 : decode cX8_holdsOf 115 = .ok (.invokevirtual 93, 3) := by decide +kernel
theorem dX8_holdsOf_118 : decode cX8_holdsOf 118 = .ok (.ifCond .eq 7, 3) := by decide +kernel
theorem dX8_holdsOf_121 : decode cX8_holdsOf 121 = .ok (.iconst 1, 1) := by decide +kernel
theorem dX8_holdsOf_122 : decode cX8_holdsOf 122 = .ok (.goto 4, 3) := by decide +kernel
theorem dX8_holdsOf_125 : decode cX8_holdsOf 125 = .ok (.iconst 0, 1) := by decide +kernel
theorem dX8_holdsOf_126 : decode cX8_holdsOf 126 = .ok (.ior, 1) := by decide +kernel
theorem dX8_holdsOf_127 : decode cX8_holdsOf 127 = .ok (.istore 5, 2) := by decide +kernel
theorem dX8_holdsOf_129 : decode cX8_holdsOf 129 = .ok (.iinc 6 1, 3) := by decide +kernel
theorem dX8_holdsOf_132 : decode cX8_holdsOf 132 = .ok (.goto (-126), 3) := by decide +kernel
theorem dX8_holdsOf_135 : decode cX8_holdsOf 135 = .ok (.iload 5, 2) := by decide +kernel
theorem dX8_holdsOf_137 : decode cX8_holdsOf 137 = .ok (.iconst 1, 1) := by decide +kernel
theorem dX8_holdsOf_138 : decode cX8_holdsOf 138 = .ok (.iand, 1) := by decide +kernel
theorem dX8_holdsOf_139 : decode cX8_holdsOf 139 = .ok (.iconst 1, 1) := by decide +kernel
theorem dX8_holdsOf_140 : decode cX8_holdsOf 140 = .ok (.if_icmp .ne 7, 3) := by decide +kernel
theorem dX8_holdsOf_143 : decode cX8_holdsOf 143 = .ok (.iconst 1, 1) := by decide +kernel
theorem dX8_holdsOf_144 : decode cX8_holdsOf 144 = .ok (.goto 4, 3) := by decide +kernel
theorem dX8_holdsOf_147 : decode cX8_holdsOf 147 = .ok (.iconst 0, 1) := by decide +kernel
theorem dX8_holdsOf_148 : decode cX8_holdsOf 148 = .ok (.ireturn, 1) := by decide +kernel
theorem dX8_isTrue_0 : decode cX8_isTrue 0 = .ok (.aload 4, 2) := by decide +kernel
theorem dX8_isTrue_2 : decode cX8_isTrue 2 = .ok (.iload_n 2, 1) := by decide +kernel
theorem dX8_isTrue_3 : decode cX8_isTrue 3 = .ok (.invokevirtual 97, 3) := by decide +kernel
theorem dX8_isTrue_6 : decode cX8_isTrue 6 = .ok (.istore 6, 2) := by decide +kernel
theorem dX8_isTrue_8 : decode cX8_isTrue 8 = .ok (.aload_n 0, 1) := by decide +kernel
theorem dX8_isTrue_9 : decode cX8_isTrue 9 = .ok (.getfield 11, 3) := by decide +kernel
theorem dX8_isTrue_12 : decode cX8_isTrue 12 = .ok (.iload_n 1, 1) := by decide +kernel
theorem dX8_isTrue_13 : decode cX8_isTrue 13 = .ok (.iaload, 1) := by decide +kernel
theorem dX8_isTrue_14 : decode cX8_isTrue 14 = .ok (.tableswitch 202 8 22 #[74, 202, 202, 202, 202, 202, 202, 202, 202, 86, 109, 159, 171, 183, 195], 74) := by decide +kernel
theorem dX8_isTrue_88 : decode cX8_isTrue 88 = .ok (.iload 6, 2) := by decide +kernel
theorem dX8_isTrue_90 : decode cX8_isTrue 90 = .ok (.iconst (-1), 1) := by decide +kernel
theorem dX8_isTrue_91 : decode cX8_isTrue 91 = .ok (.if_icmp .eq 7, 3) := by decide +kernel
theorem dX8_isTrue_94 : decode cX8_isTrue 94 = .ok (.iconst 1, 1) := by decide +kernel
theorem dX8_isTrue_95 : decode cX8_isTrue 95 = .ok (.goto 4, 3) := by decide +kernel
theorem dX8_isTrue_98 : decode cX8_isTrue 98 = .ok (.iconst 0, 1) := by decide +kernel
theorem dX8_isTrue_99 : decode cX8_isTrue 99 = .ok (.ireturn, 1) := by decide +kernel
theorem dX8_isTrue_100 : decode cX8_isTrue 100 = .ok (.iload 6, 2) := by decide +kernel
theorem dX8_isTrue_102 : decode cX8_isTrue 102 = .ok (.iconst (-1), 1) := by decide +kernel
theorem dX8_isTrue_103 : decode cX8_isTrue 103 = .ok (.if_icmp .eq 18, 3) := by decide +kernel
theorem dX8_isTrue_106 : decode cX8_isTrue 106 = .ok (.iload 5, 2) := by decide +kernel
theorem dX8_isTrue_108 : decode cX8_isTrue 108 = .ok (.iload 6, 2) := by decide +kernel
theorem dX8_isTrue_110 : decode cX8_isTrue 110 = .ok (.ishr, 1) := by decide +kernel
theorem dX8_isTrue_111 : decode cX8_isTrue 111 = .ok (.iconst 1, 1) := by decide +kernel
theorem dX8_isTrue_112 : decode cX8_isTrue 112 = .ok (.iand, 1) := by decide +kernel
theorem dX8_isTrue_113 : decode cX8_isTrue 113 = .ok (.iconst 1, 1) := by decide +kernel
theorem dX8_isTrue_114 : decode cX8_isTrue 114 = .ok (.if_icmp .ne 7, 3) := by decide +kernel
theorem dX8_isTrue_117 : decode cX8_isTrue 117 = .ok (.iconst 1, 1) := by decide +kernel
theorem dX8_isTrue_118 : decode cX8_isTrue 118 = .ok (.goto 4, 3) := by decide +kernel
theorem dX8_isTrue_121 : decode cX8_isTrue 121 = .ok (.iconst 0, 1) := by decide +kernel
theorem dX8_isTrue_122 : decode cX8_isTrue 122 = .ok (.ireturn, 1) := by decide +kernel
theorem dX8_isTrue_123 : decode cX8_isTrue 123 = .ok (.aload 4, 2) := by decide +kernel
theorem dX8_isTrue_125 : decode cX8_isTrue 125 = .ok (.aload_n 0, 1) := by decide +kernel
theorem dX8_isTrue_126 : decode cX8_isTrue 126 = .ok (.getfield 18, 3) := by decide +kernel
theorem dX8_isTrue_129 : decode cX8_isTrue 129 = .ok (.iload_n 1, 1) := by decide +kernel
theorem dX8_isTrue_130 : decode cX8_isTrue 130 = .ok (.iaload, 1) := by decide +kernel
theorem dX8_isTrue_131 : decode cX8_isTrue 131 = .ok (.invokevirtual 97, 3) := by decide +kernel
theorem dX8_isTrue_134 : decode cX8_isTrue 134 = .ok (.istore 7, 2) := by decide +kernel
theorem dX8_isTrue_136 : decode cX8_isTrue 136 = .ok (.iload 6, 2) := by decide +kernel
theorem dX8_isTrue_138 : decode cX8_isTrue 138 = .ok (.iconst (-1), 1) := by decide +kernel
theorem dX8_isTrue_139 : decode cX8_isTrue 139 = .ok (.if_icmp .eq 32, 3) := by decide +kernel
theorem dX8_isTrue_142 : decode cX8_isTrue 142 = .ok (.iload 7, 2) := by decide +kernel
theorem dX8_isTrue_144 : decode cX8_isTrue 144 = .ok (.iconst (-1), 1) := by decide +kernel
theorem dX8_isTrue_145 : decode cX8_isTrue 145 = .ok (.if_icmp .eq 26, 3) := by decide +kernel
theorem dX8_isTrue_148 : decode cX8_isTrue 148 = .ok (.aload 4, 2) := by decide +kernel
theorem dX8_isTrue_150 : decode cX8_isTrue 150 = .ok (.getfield 103, 3) := by decide +kernel
theorem dX8_isTrue_153 : decode cX8_isTrue 153 = .ok (.iload 6, 2) := by decide +kernel
theorem dX8_isTrue_155 : decode cX8_isTrue 155 = .ok (.iaload, 1) := by decide +kernel
theorem dX8_isTrue_156 : decode cX8_isTrue 156 = .ok (.aload 4, 2) := by decide +kernel
theorem dX8_isTrue_158 : decode cX8_isTrue 158 = .ok (.getfield 103, 3) := by decide +kernel
theorem dX8_isTrue_161 : decode cX8_isTrue 161 = .ok (.iload 7, 2) := by decide +kernel
theorem dX8_isTrue_163 : decode cX8_isTrue 163 = .ok (.iaload, 1) := by decide +kernel
theorem dX8_isTrue_164 : decode cX8_isTrue 164 = .ok (.if_icmp .ge 7, 3) := by decide +kernel
theorem dX8_isTrue_167 : decode cX8_isTrue 167 = .ok (.iconst 1, 1) := by decide +kernel
theorem dX8_isTrue_168 : decode cX8_isTrue 168 = .ok (.goto 4, 3) := by decide +kernel
theorem dX8_isTrue_171 : decode cX8_isTrue 171 = .ok (.iconst 0, 1) := by decide +kernel
theorem dX8_isTrue_172 : decode cX8_isTrue 172 = .ok (.ireturn, 1) := by decide +kernel
theorem dX8_isTrue_173 : decode cX8_isTrue 173 = .ok (.aload_n 0, 1) := by decide +kernel
theorem dX8_isTrue_174 : decode cX8_isTrue 174 = .ok (.aload_n 3, 1) := by decide +kernel
theorem dX8_isTrue_175 : decode cX8_isTrue 175 = .ok (.getfield 106, 3) := by decide +kernel
theorem dX8_isTrue_178 : decode cX8_isTrue 178 = .ok (.iload_n 2, 1) := by decide +kernel
theorem dX8_isTrue_179 : decode cX8_isTrue 179 = .ok (.iaload, 1) := by decide +kernel
theorem dX8_isTrue_180 : decode cX8_isTrue 180 = .ok (.iload_n 1, 1) := by decide +kernel
theorem dX8_isTrue_181 : decode cX8_isTrue 181 = .ok (.invokevirtual 109, 3) := by decide +kernel
theorem dX8_isTrue_184 : decode cX8_isTrue 184 = .ok (.ireturn, 1) := by decide +kernel
theorem dX8_isTrue_185 : decode cX8_isTrue 185 = .ok (.aload_n 0, 1) := by decide +kernel
theorem dX8_isTrue_186 : decode cX8_isTrue 186 = .ok (.aload_n 3, 1) := by decide +kernel
theorem dX8_isTrue_187 : decode cX8_isTrue 187 = .ok (.getfield 112, 3) := by decide +kernel
theorem dX8_isTrue_190 : decode cX8_isTrue 190 = .ok (.iload_n 2, 1) := by decide +kernel
theorem dX8_isTrue_191 : decode cX8_isTrue 191 = .ok (.iaload, 1) := by decide +kernel
theorem dX8_isTrue_192 : decode cX8_isTrue 192 = .ok (.iload_n 1, 1) := by decide +kernel
theorem dX8_isTrue_193 : decode cX8_isTrue 193 = .ok (.invokevirtual 109, 3) := by decide +kernel
theorem dX8_isTrue_196 : decode cX8_isTrue 196 = .ok (.ireturn, 1) := by decide +kernel
theorem dX8_isTrue_197 : decode cX8_isTrue 197 = .ok (.aload_n 0, 1) := by decide +kernel
theorem dX8_isTrue_198 : decode cX8_isTrue 198 = .ok (.aload_n 3, 1) := by decide +kernel
theorem dX8_isTrue_199 : decode cX8_isTrue 199 = .ok (.getfield 115, 3) := by decide +kernel
theorem dX8_isTrue_202 : decode cX8_isTrue 202 = .ok (.iload_n 2, 1) := by decide +kernel
theorem dX8_isTrue_203 : decode cX8_isTrue 203 = .ok (.iaload, 1) := by decide +kernel
theorem dX8_isTrue_204 : decode cX8_isTrue 204 = .ok (.iload_n 1, 1) := by decide +kernel
theorem dX8_isTrue_205 : decode cX8_isTrue 205 = .ok (.invokevirtual 109, 3) := by decide +kernel
theorem dX8_isTrue_208 : decode cX8_isTrue 208 = .ok (.ireturn, 1) := by decide +kernel
theorem dX8_isTrue_209 : decode cX8_isTrue 209 = .ok (.aload_n 0, 1) := by decide +kernel
theorem dX8_isTrue_210 : decode cX8_isTrue 210 = .ok (.iload_n 2, 1) := by decide +kernel
theorem dX8_isTrue_211 : decode cX8_isTrue 211 = .ok (.iload_n 1, 1) := by decide +kernel
theorem dX8_isTrue_212 : decode cX8_isTrue 212 = .ok (.invokevirtual 109, 3) := by decide +kernel
theorem dX8_isTrue_215 : decode cX8_isTrue 215 = .ok (.ireturn, 1) := by decide +kernel
theorem dX8_isTrue_216 : decode cX8_isTrue 216 = .ok (.iconst 0, 1) := by decide +kernel
theorem dX8_isTrue_217 : decode cX8_isTrue 217 = .ok (.ireturn, 1) := by decide +kernel
theorem dX8_compares_0 : decode cX8_compares 0 = .ok (.aload_n 0, 1) := by decide +kernel
theorem dX8_compares_1 : decode cX8_compares 1 = .ok (.getfield 15, 3) := by decide +kernel
theorem dX8_compares_4 : decode cX8_compares 4 = .ok (.iload_n 2, 1) := by decide +kernel
theorem dX8_compares_5 : decode cX8_compares 5 = .ok (.iaload, 1) := by decide +kernel
theorem dX8_compares_6 : decode cX8_compares 6 = .ok (.bipush 60, 2) := by decide +kernel
theorem dX8_compares_8 : decode cX8_compares 8 = .ok (.if_icmp .ne 19, 3) := by decide +kernel
theorem dX8_compares_11 : decode cX8_compares 11 = .ok (.iload_n 1, 1) := by decide +kernel
theorem dX8_compares_12 : decode cX8_compares 12 = .ok (.aload_n 0, 1) := by decide +kernel
theorem dX8_compares_13 : decode cX8_compares 13 = .ok (.getfield 18, 3) := by decide +kernel
theorem dX8_compares_16 : decode cX8_compares 16 = .ok (.iload_n 2, 1) := by decide +kernel
theorem dX8_compares_17 : decode cX8_compares 17 = .ok (.iaload, 1) := by decide +kernel
theorem dX8_compares_18 : decode cX8_compares 18 = .ok (.if_icmp .ge 7, 3) := by decide +kernel
theorem dX8_compares_21 : decode cX8_compares 21 = .ok (.iconst 1, 1) := by decide +kernel
theorem dX8_compares_22 : decode cX8_compares 22 = .ok (.goto 4, 3) := by decide +kernel
theorem dX8_compares_25 : decode cX8_compares 25 = .ok (.iconst 0, 1) := by decide +kernel
theorem dX8_compares_26 : decode cX8_compares 26 = .ok (.ireturn, 1) := by decide +kernel
theorem dX8_compares_27 : decode cX8_compares 27 = .ok (.aload_n 0, 1) := by decide +kernel
theorem dX8_compares_28 : decode cX8_compares 28 = .ok (.getfield 15, 3) := by decide +kernel
theorem dX8_compares_31 : decode cX8_compares 31 = .ok (.iload_n 2, 1) := by decide +kernel
theorem dX8_compares_32 : decode cX8_compares 32 = .ok (.iaload, 1) := by decide +kernel
theorem dX8_compares_33 : decode cX8_compares 33 = .ok (.bipush 62, 2) := by decide +kernel
theorem dX8_compares_35 : decode cX8_compares 35 = .ok (.if_icmp .ne 21, 3) := by decide +kernel
theorem dX8_compares_38 : decode cX8_compares 38 = .ok (.iload_n 1, 1) := by decide +kernel
theorem dX8_compares_39 : decode cX8_compares 39 = .ok (.aload_n 0, 1) := by decide +kernel
theorem dX8_compares_40 : decode cX8_compares 40 = .ok (.getfield 18, 3) := by decide +kernel
theorem dX8_compares_43 : decode cX8_compares 43 = .ok (.iload_n 2, 1) := by decide +kernel
theorem dX8_compares_44 : decode cX8_compares 44 = .ok (.iaload, 1) := by decide +kernel
theorem dX8_compares_45 : decode cX8_compares 45 = .ok (.if_icmp .le 7, 3) := by decide +kernel
theorem dX8_compares_48 : decode cX8_compares 48 = .ok (.iconst 1, 1) := by decide +kernel
theorem dX8_compares_49 : decode cX8_compares 49 = .ok (.goto 22, 3) := by decide +kernel
theorem dX8_compares_52 : decode cX8_compares 52 = .ok (.iconst 0, 1) := by decide +kernel
theorem dX8_compares_53 : decode cX8_compares 53 = .ok (.goto 18, 3) := by decide +kernel
theorem dX8_compares_56 : decode cX8_compares 56 = .ok (.iload_n 1, 1) := by decide +kernel
theorem dX8_compares_57 : decode cX8_compares 57 = .ok (.aload_n 0, 1) := by decide +kernel
theorem dX8_compares_58 : decode cX8_compares 58 = .ok (.getfield 18, 3) := by decide +kernel
theorem dX8_compares_61 : decode cX8_compares 61 = .ok (.iload_n 2, 1) := by decide +kernel
theorem dX8_compares_62 : decode cX8_compares 62 = .ok (.iaload, 1) := by decide +kernel
theorem dX8_compares_63 : decode cX8_compares 63 = .ok (.if_icmp .ne 7, 3) := by decide +kernel
theorem dX8_compares_66 : decode cX8_compares 66 = .ok (.iconst 1, 1) := by decide +kernel
theorem dX8_compares_67 : decode cX8_compares 67 = .ok (.goto 4, 3) := by decide +kernel
theorem dX8_compares_70 : decode cX8_compares 70 = .ok (.iconst 0, 1) := by decide +kernel
theorem dX8_compares_71 : decode cX8_compares 71 = .ok (.ireturn, 1) := by decide +kernel
theorem dX9_init_0 : decode cX9_init 0 = .ok (.aload_n 0, 1) := by decide +kernel
theorem dX9_init_1 : decode cX9_init 1 = .ok (.invokespecial 3, 3) := by decide +kernel
theorem dX9_init_4 : decode cX9_init 4 = .ok (.aload_n 0, 1) := by decide +kernel
theorem dX9_init_5 : decode cX9_init 5 = .ok (.new 9, 3) := by decide +kernel
theorem dX9_init_8 : decode cX9_init 8 = .ok (.dup, 1) := by decide +kernel
theorem dX9_init_9 : decode cX9_init 9 = .ok (.invokespecial 11, 3) := by decide +kernel
theorem dX9_init_12 : decode cX9_init 12 = .ok (.putfield 12, 3) := by decide +kernel
theorem dX9_init_15 : decode cX9_init 15 = .ok (.aload_n 0, 1) := by decide +kernel
theorem dX9_init_16 : decode cX9_init 16 = .ok (.new 16, 3) := by decide +kernel
theorem dX9_init_19 : decode cX9_init 19 = .ok (.dup, 1) := by decide +kernel
theorem dX9_init_20 : decode cX9_init 20 = .ok (.invokespecial 18, 3) := by decide +kernel
theorem dX9_init_23 : decode cX9_init 23 = .ok (.putfield 19, 3) := by decide +kernel
theorem dX9_init_26 : decode cX9_init 26 = .ok (.aload_n 0, 1) := by decide +kernel
theorem dX9_init_27 : decode cX9_init 27 = .ok (.new 16, 3) := by decide +kernel
theorem dX9_init_30 : decode cX9_init 30 = .ok (.dup, 1) := by decide +kernel
theorem dX9_init_31 : decode cX9_init 31 = .ok (.invokespecial 18, 3) := by decide +kernel
theorem dX9_init_34 : decode cX9_init 34 = .ok (.putfield 23, 3) := by decide +kernel
theorem dX9_init_37 : decode cX9_init 37 = .ok (.aload_n 0, 1) := by decide +kernel
theorem dX9_init_38 : decode cX9_init 38 = .ok (.new 16, 3) := by decide +kernel
theorem dX9_init_41 : decode cX9_init 41 = .ok (.dup, 1) := by decide +kernel
theorem dX9_init_42 : decode cX9_init 42 = .ok (.invokespecial 18, 3) := by decide +kernel
theorem dX9_init_45 : decode cX9_init 45 = .ok (.putfield 26, 3) := by decide +kernel
theorem dX9_init_48 : decode cX9_init 48 = .ok (.aload_n 0, 1) := by decide +kernel
theorem dX9_init_49 : decode cX9_init 49 = .ok (.new 29, 3) := by decide +kernel
theorem dX9_init_52 : decode cX9_init 52 = .ok (.dup, 1) := by decide +kernel
theorem dX9_init_53 : decode cX9_init 53 = .ok (.invokespecial 31, 3) := by decide +kernel
theorem dX9_init_56 : decode cX9_init 56 = .ok (.putfield 32, 3) := by decide +kernel
theorem dX9_init_59 : decode cX9_init 59 = .ok (.aload_n 0, 1) := by decide +kernel
theorem dX9_init_60 : decode cX9_init 60 = .ok (.new 29, 3) := by decide +kernel
theorem dX9_init_63 : decode cX9_init 63 = .ok (.dup, 1) := by decide +kernel
theorem dX9_init_64 : decode cX9_init 64 = .ok (.invokespecial 31, 3) := by decide +kernel
theorem dX9_init_67 : decode cX9_init 67 = .ok (.putfield 36, 3) := by decide +kernel
theorem dX9_init_70 : decode cX9_init 70 = .ok (.aload_n 0, 1) := by decide +kernel
theorem dX9_init_71 : decode cX9_init 71 = .ok (.bipush 8, 2) := by decide +kernel
theorem dX9_init_73 : decode cX9_init 73 = .ok (.anewarray 16, 3) := by decide +kernel
theorem dX9_init_76 : decode cX9_init 76 = .ok (.putfield 39, 3) := by decide +kernel
theorem dX9_init_79 : decode cX9_init 79 = .ok (.aload_n 0, 1) := by decide +kernel
theorem dX9_init_80 : decode cX9_init 80 = .ok (.iconst 2, 1) := by decide +kernel
theorem dX9_init_81 : decode cX9_init 81 = .ok (.anewarray 43, 3) := by decide +kernel
theorem dX9_init_84 : decode cX9_init 84 = .ok (.putfield 45, 3) := by decide +kernel
theorem dX9_init_87 : decode cX9_init 87 = .ok (.aload_n 0, 1) := by decide +kernel
theorem dX9_init_88 : decode cX9_init 88 = .ok (.new 49, 3) := by decide +kernel
theorem dX9_init_91 : decode cX9_init 91 = .ok (.dup, 1) := by decide +kernel
theorem dX9_init_92 : decode cX9_init 92 = .ok (.invokespecial 51, 3) := by decide +kernel
theorem dX9_init_95 : decode cX9_init 95 = .ok (.putfield 52, 3) := by decide +kernel
theorem dX9_init_98 : decode cX9_init 98 = .ok (.aload_n 0, 1) := by decide +kernel
theorem dX9_init_99 : decode cX9_init 99 = .ok (.new 49, 3) := by decide +kernel
theorem dX9_init_102 : decode cX9_init 102 = .ok (.dup, 1) := by decide +kernel
theorem dX9_init_103 : decode cX9_init 103 = .ok (.invokespecial 51, 3) := by decide +kernel
theorem dX9_init_106 : decode cX9_init 106 = .ok (.putfield 56, 3) := by decide +kernel
theorem dX9_init_109 : decode cX9_init 109 = .ok (.aload_n 0, 1) := by decide +kernel
theorem dX9_init_110 : decode cX9_init 110 = .ok (.new 59, 3) := by decide +kernel
theorem dX9_init_113 : decode cX9_init 113 = .ok (.dup, 1) := by decide +kernel
theorem dX9_init_114 : decode cX9_init 114 = .ok (.iconst 0, 1) := by decide +kernel
theorem dX9_init_115 : decode cX9_init 115 = .ok (.invokespecial 61, 3) := by decide +kernel
theorem dX9_init_118 : decode cX9_init 118 = .ok (.putfield 64, 3) := by decide +kernel
theorem dX9_init_121 : decode cX9_init 121 = .ok (.aload_n 0, 1) := by decide +kernel
theorem dX9_init_122 : decode cX9_init 122 = .ok (.aconst_null, 1) := by decide +kernel
theorem dX9_init_123 : decode cX9_init 123 = .ok (.putfield 68, 3) := by decide +kernel
theorem dX9_init_126 : decode cX9_init 126 = .ok (.aload_n 0, 1) := by decide +kernel
theorem dX9_init_127 : decode cX9_init 127 = .ok (.aconst_null, 1) := by decide +kernel
theorem dX9_init_128 : decode cX9_init 128 = .ok (.putfield 72, 3) := by decide +kernel
theorem dX9_init_131 : decode cX9_init 131 = .ok (.aload_n 0, 1) := by decide +kernel
theorem dX9_init_132 : decode cX9_init 132 = .ok (.aconst_null, 1) := by decide +kernel
theorem dX9_init_133 : decode cX9_init 133 = .ok (.putfield 76, 3) := by decide +kernel
theorem dX9_init_136 : decode cX9_init 136 = .ok (.aload_n 0, 1) := by decide +kernel
theorem dX9_init_137 : decode cX9_init 137 = .ok (.iconst 0, 1) := by decide +kernel
theorem dX9_init_138 : decode cX9_init 138 = .ok (.putfield 80, 3) := by decide +kernel
theorem dX9_init_141 : decode cX9_init 141 = .ok (.aload_n 0, 1) := by decide +kernel
theorem dX9_init_142 : decode cX9_init 142 = .ok (.iconst 0, 1) := by decide +kernel
theorem dX9_init_143 : decode cX9_init 143 = .ok (.putfield 84, 3) := by decide +kernel
theorem dX9_init_146 : decode cX9_init 146 = .ok (.aload_n 0, 1) := by decide +kernel
theorem dX9_init_147 : decode cX9_init 147 = .ok (.iconst 0, 1) := by decide +kernel
theorem dX9_init_148 : decode cX9_init 148 = .ok (.putfield 88, 3) := by decide +kernel
theorem dX9_init_151 : decode cX9_init 151 = .ok (.aload_n 0, 1) := by decide +kernel
theorem dX9_init_152 : decode cX9_init 152 = .ok (.iconst 0, 1) := by decide +kernel
theorem dX9_init_153 : decode cX9_init 153 = .ok (.putfield 91, 3) := by decide +kernel
theorem dX9_init_156 : decode cX9_init 156 = .ok (.aload_n 0, 1) := by decide +kernel
theorem dX9_init_157 : decode cX9_init 157 = .ok (.iconst 0, 1) := by decide +kernel
theorem dX9_init_158 : decode cX9_init 158 = .ok (.putfield 94, 3) := by decide +kernel
theorem dX9_init_161 : decode cX9_init 161 = .ok (.iconst 0, 1) := by decide +kernel
theorem dX9_init_162 : decode cX9_init 162 = .ok (.istore_n 1, 1) := by decide +kernel
theorem dX9_init_163 : decode cX9_init 163 = .ok (.iload_n 1, 1) := by decide +kernel
theorem dX9_init_164 : decode cX9_init 164 = .ok (.aload_n 0, 1) := by decide +kernel
theorem dX9_init_165 : decode cX9_init 165 = .ok (.getfield 39, 3) := by decide +kernel
theorem dX9_init_168 : decode cX9_init 168 = .ok (.arraylength, 1) := by decide +kernel
theorem dX9_init_169 : decode cX9_init 169 = .ok (.if_icmp .ge 22, 3) := by decide +kernel
theorem dX9_init_172 : decode cX9_init 172 = .ok (.aload_n 0, 1) := by decide +kernel
theorem dX9_init_173 : decode cX9_init 173 = .ok (.getfield 39, 3) := by decide +kernel
theorem dX9_init_176 : decode cX9_init 176 = .ok (.iload_n 1, 1) := by decide +kernel
theorem dX9_init_177 : decode cX9_init 177 = .ok (.new 16, 3) := by decide +kernel
theorem dX9_init_180 : decode cX9_init 180 = .ok (.dup, 1) := by decide +kernel
theorem dX9_init_181 : decode cX9_init 181 = .ok (.invokespecial 18, 3) := by decide +kernel
theorem dX9_init_184 : decode cX9_init 184 = .ok (.aastore, 1) := by decide +kernel
theorem dX9_init_185 : decode cX9_init 185 = .ok (.iinc 1 1, 3) := by decide +kernel
theorem dX9_init_188 : decode cX9_init 188 = .ok (.goto (-25), 3) := by decide +kernel
theorem dX9_init_191 : decode cX9_init 191 = .ok (.iconst 0, 1) := by decide +kernel
theorem dX9_init_192 : decode cX9_init 192 = .ok (.istore_n 1, 1) := by decide +kernel
theorem dX9_init_193 : decode cX9_init 193 = .ok (.iload_n 1, 1) := by decide +kernel
theorem dX9_init_194 : decode cX9_init 194 = .ok (.aload_n 0, 1) := by decide +kernel
theorem dX9_init_195 : decode cX9_init 195 = .ok (.getfield 45, 3) := by decide +kernel
theorem dX9_init_198 : decode cX9_init 198 = .ok (.arraylength, 1) := by decide +kernel
theorem dX9_init_199 : decode cX9_init 199 = .ok (.if_icmp .ge 22, 3) := by decide +kernel
theorem dX9_init_202 : decode cX9_init 202 = .ok (.aload_n 0, 1) := by decide +kernel
theorem dX9_init_203 : decode cX9_init 203 = .ok (.getfield 45, 3) := by decide +kernel
theorem dX9_init_206 : decode cX9_init 206 = .ok (.iload_n 1, 1) := by decide +kernel
theorem dX9_init_207 : decode cX9_init 207 = .ok (.new 43, 3) := by decide +kernel
theorem dX9_init_210 : decode cX9_init 210 = .ok (.dup, 1) := by decide +kernel
theorem dX9_init_211 : decode cX9_init 211 = .ok (.invokespecial 97, 3) := by decide +kernel
theorem dX9_init_214 : decode cX9_init 214 = .ok (.aastore, 1) := by decide +kernel
theorem dX9_init_215 : decode cX9_init 215 = .ok (.iinc 1 1, 3) := by decide +kernel
theorem dX9_init_218 : decode cX9_init 218 = .ok (.goto (-25), 3) := by decide +kernel
theorem dX9_init_221 : decode cX9_init 221 = .ok (.aload_n 0, 1) := by decide +kernel
theorem dX9_init_222 : decode cX9_init 222 = .ok (.getfield 19, 3) := by decide +kernel
theorem dX9_init_225 : decode cX9_init 225 = .ok (.aload_n 0, 1) := by decide +kernel
theorem dX9_init_226 : decode cX9_init 226 = .ok (.getfield 64, 3) := by decide +kernel
theorem dX9_init_229 : decode cX9_init 229 = .ok (.invokevirtual 98, 3) := by decide +kernel
theorem dX9_init_232 : decode cX9_init 232 = .ok (.return_, 1) := by decide +kernel
theorem dX9_feed_0 : decode cX9_feed 0 = .ok (.aload_n 0, 1) := by decide +kernel
theorem dX9_feed_1 : decode cX9_feed 1 = .ok (.getfield 12, 3) := by decide +kernel
theorem dX9_feed_4 : decode cX9_feed 4 = .ok (.invokevirtual 102, 3) := by decide +kernel
theorem dX9_feed_7 : decode cX9_feed 7 = .ok (.ifCond .ne 5, 3) := by decide +kernel
theorem dX9_feed_10 : decode cX9_feed 10 = .ok (.iconst (-1), 1) := by decide +kernel
theorem dX9_feed_11 : decode cX9_feed 11 = .ok (.ireturn, 1) := by decide +kernel
theorem dX9_feed_12 : decode cX9_feed 12 = .ok (.aload_n 0, 1) := by decide +kernel
theorem dX9_feed_13 : decode cX9_feed 13 = .ok (.getfield 12, 3) := by decide +kernel
theorem dX9_feed_16 : decode cX9_feed 16 = .ok (.iload_n 1, 1) := by decide +kernel
theorem dX9_feed_17 : decode cX9_feed 17 = .ok (.invokevirtual 106, 3) := by decide +kernel
theorem dX9_feed_20 : decode cX9_feed 20 = .ok (.aload_n 0, 1) := by decide +kernel
theorem dX9_feed_21 : decode cX9_feed 21 = .ok (.getfield 12, 3) := by decide +kernel
theorem dX9_feed_24 : decode cX9_feed 24 = .ok (.iload_n 2, 1) := by decide +kernel
theorem dX9_feed_25 : decode cX9_feed 25 = .ok (.invokevirtual 106, 3) := by decide +kernel
theorem dX9_feed_28 : decode cX9_feed 28 = .ok (.aload_n 0, 1) := by decide +kernel
theorem dX9_feed_29 : decode cX9_feed 29 = .ok (.getfield 12, 3) := by decide +kernel
theorem dX9_feed_32 : decode cX9_feed 32 = .ok (.iload_n 3, 1) := by decide +kernel
theorem dX9_feed_33 : decode cX9_feed 33 = .ok (.invokevirtual 106, 3) := by decide +kernel
theorem dX9_feed_36 : decode cX9_feed 36 = .ok (.aload_n 0, 1) := by decide +kernel
theorem dX9_feed_37 : decode cX9_feed 37 = .ok (.getfield 12, 3) := by decide +kernel
theorem dX9_feed_40 : decode cX9_feed 40 = .ok (.iload 4, 2) := by decide +kernel
theorem dX9_feed_42 : decode cX9_feed 42 = .ok (.invokevirtual 106, 3) := by decide +kernel
theorem dX9_feed_45 : decode cX9_feed 45 = .ok (.aload_n 0, 1) := by decide +kernel
theorem dX9_feed_46 : decode cX9_feed 46 = .ok (.getfield 12, 3) := by decide +kernel
theorem dX9_feed_49 : decode cX9_feed 49 = .ok (.iload 5, 2) := by decide +kernel
theorem dX9_feed_51 : decode cX9_feed 51 = .ok (.invokevirtual 106, 3) := by decide +kernel
theorem dX9_feed_54 : decode cX9_feed 54 = .ok (.aload_n 0, 1) := by decide +kernel
theorem dX9_feed_55 : decode cX9_feed 55 = .ok (.getfield 12, 3) := by decide +kernel
theorem dX9_feed_58 : decode cX9_feed 58 = .ok (.getfield 109, 3) := by decide +kernel
theorem dX9_feed_61 : decode cX9_feed 61 = .ok (.ireturn, 1) := by decide +kernel
theorem dX9_end_0 : decode cX9_end 0 = .ok (.iload_n 1, 1) := by decide +kernel
theorem dX9_end_1 : decode cX9_end 1 = .ok (.ifCond .lt 14, 3) := by decide +kernel
theorem dX9_end_4 : decode cX9_end 4 = .ok (.iload_n 1, 1) := by decide +kernel
theorem dX9_end_5 : decode cX9_end 5 = .ok (.aload_n 0, 1) := by decide +kernel
theorem dX9_end_6 : decode cX9_end 6 = .ok (.getfield 12, 3) := by decide +kernel
theorem dX9_end_9 : decode cX9_end 9 = .ok (.getfield 109, 3) := by decide +kernel
theorem dX9_end_12 : decode cX9_end 12 = .ok (.if_icmp .le 5, 3) := by decide +kernel
theorem dX9_end_15 : decode cX9_end 15 = .ok (.iconst 0, 1) := by decide +kernel
theorem dX9_end_16 : decode cX9_end 16 = .ok (.ireturn, 1) := by decide +kernel
theorem dX9_end_17 : decode cX9_end 17 = .ok (.aload_n 0, 1) := by decide +kernel
theorem dX9_end_18 : decode cX9_end 18 = .ok (.getfield 12, 3) := by decide +kernel
theorem dX9_end_21 : decode cX9_end 21 = .ok (.iload_n 1, 1) := by decide +kernel
theorem dX9_end_22 : decode cX9_end 22 = .ok (.putfield 109, 3) := by decide +kernel
theorem dX9_end_25 : decode cX9_end 25 = .ok (.iconst 1, 1) := by decide +kernel
theorem dX9_end_26 : decode cX9_end 26 = .ok (.ireturn, 1) := by decide +kernel
theorem dX9_course_0 : decode cX9_course 0 = .ok (.new 59, 3) := by decide +kernel
theorem dX9_course_3 : decode cX9_course 3 = .ok (.dup, 1) := by decide +kernel
theorem dX9_course_4 : decode cX9_course 4 = .ok (.aload_n 0, 1) := by decide +kernel
theorem dX9_course_5 : decode cX9_course 5 = .ok (.getfield 91, 3) := by decide +kernel
theorem dX9_course_8 : decode cX9_course 8 = .ok (.iconst 1, 1) := by decide +kernel
theorem dX9_course_9 : decode cX9_course 9 = .ok (.iadd, 1) := by decide +kernel
theorem dX9_course_10 : decode cX9_course 10 = .ok (.invokespecial 61, 3) := by decide +kernel
theorem dX9_course_13 : decode cX9_course 13 = .ok (.astore_n 1, 1) := by decide +kernel
theorem dX9_course_14 : decode cX9_course 14 = .ok (.aload_n 0, 1) := by decide +kernel
theorem dX9_course_15 : decode cX9_course 15 = .ok (.getfield 12, 3) := by decide +kernel
theorem dX9_course_18 : decode cX9_course 18 = .ok (.sipush 900, 3) := by decide +kernel
theorem dX9_course_21 : decode cX9_course 21 = .ok (.invokevirtual 112, 3) := by decide +kernel
theorem dX9_course_24 : decode cX9_course 24 = .ok (.aload_n 1, 1) := by decide +kernel
theorem dX9_course_25 : decode cX9_course 25 = .ok (.aload_n 0, 1) := by decide +kernel
theorem dX9_course_26 : decode cX9_course 26 = .ok (.getfield 12, 3) := by decide +kernel
theorem dX9_course_29 : decode cX9_course 29 = .ok (.invokevirtual 115, 3) := by decide +kernel
theorem dX9_course_32 : decode cX9_course 32 = .ok (.istore_n 2, 1) := by decide +kernel
theorem dX9_course_33 : decode cX9_course 33 = .ok (.iload_n 2, 1) := by decide +kernel
theorem dX9_course_34 : decode cX9_course 34 = .ok (.ifCond .eq 43, 3) := by decide +kernel
theorem dX9_course_37 : decode cX9_course 37 = .ok (.aload_n 0, 1) := by decide +kernel
theorem dX9_course_38 : decode cX9_course 38 = .ok (.dup, 1) := by decide +kernel
theorem dX9_course_39 : decode cX9_course 39 = .ok (.getfield 91, 3) := by decide +kernel
theorem dX9_course_42 : decode cX9_course 42 = .ok (.iconst 1, 1) := by decide +kernel
theorem dX9_course_43 : decode cX9_course 43 = .ok (.iadd, 1) := by decide +kernel
theorem dX9_course_44 : decode cX9_course 44 = .ok (.putfield 91, 3) := by decide +kernel
theorem dX9_course_47 : decode cX9_course 47 = .ok (.aload_n 0, 1) := by decide +kernel
theorem dX9_course_48 : decode cX9_course 48 = .ok (.aload_n 1, 1) := by decide +kernel
theorem dX9_course_49 : decode cX9_course 49 = .ok (.putfield 64, 3) := by decide +kernel
theorem dX9_course_52 : decode cX9_course 52 = .ok (.aload_n 0, 1) := by decide +kernel
theorem dX9_course_53 : decode cX9_course 53 = .ok (.getfield 19, 3) := by decide +kernel
theorem dX9_course_56 : decode cX9_course 56 = .ok (.aload_n 0, 1) := by decide +kernel
theorem dX9_course_57 : decode cX9_course 57 = .ok (.getfield 64, 3) := by decide +kernel
theorem dX9_course_60 : decode cX9_course 60 = .ok (.invokevirtual 98, 3) := by decide +kernel
theorem dX9_course_63 : decode cX9_course 63 = .ok (.aload_n 0, 1) := by decide +kernel
theorem dX9_course_64 : decode cX9_course 64 = .ok (.iconst 0, 1) := by decide +kernel
theorem dX9_course_65 : decode cX9_course 65 = .ok (.putfield 80, 3) := by decide +kernel
theorem dX9_course_68 : decode cX9_course 68 = .ok (.aload_n 0, 1) := by decide +kernel
theorem dX9_course_69 : decode cX9_course 69 = .ok (.aconst_null, 1) := by decide +kernel
theorem dX9_course_70 : decode cX9_course 70 = .ok (.putfield 68, 3) := by decide +kernel
theorem dX9_course_73 : decode cX9_course 73 = .ok (.aload_n 0, 1) := by decide +kernel
theorem dX9_course_74 : decode cX9_course 74 = .ok (.invokevirtual 119, 3) := by decide +kernel
theorem dX9_course_77 : decode cX9_course 77 = .ok (.aload_n 0, 1) := by decide +kernel
theorem dX9_course_78 : decode cX9_course 78 = .ok (.iload_n 2, 1) := by decide +kernel
theorem dX9_course_79 : decode cX9_course 79 = .ok (.aload_n 1, 1) := by decide +kernel
theorem dX9_course_80 : decode cX9_course 80 = .ok (.getfield 122, 3) := by decide +kernel
theorem dX9_course_83 : decode cX9_course 83 = .ok (.invokevirtual 125, 3) := by decide +kernel
theorem dX9_course_86 : decode cX9_course 86 = .ok (.ireturn, 1) := by decide +kernel
theorem dX9_plan_0 : decode cX9_plan 0 = .ok (.aload_n 0, 1) := by decide +kernel
theorem dX9_plan_1 : decode cX9_plan 1 = .ok (.getfield 12, 3) := by decide +kernel
theorem dX9_plan_4 : decode cX9_plan 4 = .ok (.sipush 400, 3) := by decide +kernel
theorem dX9_plan_7 : decode cX9_plan 7 = .ok (.invokevirtual 112, 3) := by decide +kernel
theorem dX9_plan_10 : decode cX9_plan 10 = .ok (.aload_n 0, 1) := by decide +kernel
theorem dX9_plan_11 : decode cX9_plan 11 = .ok (.getfield 26, 3) := by decide +kernel
theorem dX9_plan_14 : decode cX9_plan 14 = .ok (.aload_n 0, 1) := by decide +kernel
theorem dX9_plan_15 : decode cX9_plan 15 = .ok (.getfield 12, 3) := by decide +kernel
theorem dX9_plan_18 : decode cX9_plan 18 = .ok (.aload_n 0, 1) := by decide +kernel
theorem dX9_plan_19 : decode cX9_plan 19 = .ok (.getfield 64, 3) := by decide +kernel
theorem dX9_plan_22 : decode cX9_plan 22 = .ok (.invokevirtual 129, 3) := by decide +kernel
theorem dX9_plan_25 : decode cX9_plan 25 = .ok (.istore_n 1, 1) := by decide +kernel
theorem dX9_plan_26 : decode cX9_plan 26 = .ok (.iload_n 1, 1) := by decide +kernel
theorem dX9_plan_27 : decode cX9_plan 27 = .ok (.ifCond .eq 18, 3) := by decide +kernel
theorem dX9_plan_30 : decode cX9_plan 30 = .ok (.aload_n 0, 1) := by decide +kernel
theorem dX9_plan_31 : decode cX9_plan 31 = .ok (.getfield 19, 3) := by decide +kernel
theorem dX9_plan_34 : decode cX9_plan 34 = .ok (.aload_n 0, 1) := by decide +kernel
theorem dX9_plan_35 : decode cX9_plan 35 = .ok (.getfield 26, 3) := by decide +kernel
theorem dX9_plan_38 : decode cX9_plan 38 = .ok (.invokevirtual 132, 3) := by decide +kernel
theorem dX9_plan_41 : decode cX9_plan 41 = .ok (.aload_n 0, 1) := by decide +kernel
theorem dX9_plan_42 : decode cX9_plan 42 = .ok (.invokevirtual 119, 3) := by decide +kernel
theorem dX9_plan_45 : decode cX9_plan 45 = .ok (.aload_n 0, 1) := by decide +kernel
theorem dX9_plan_46 : decode cX9_plan 46 = .ok (.iload_n 1, 1) := by decide +kernel
theorem dX9_plan_47 : decode cX9_plan 47 = .ok (.aload_n 0, 1) := by decide +kernel
theorem dX9_plan_48 : decode cX9_plan 48 = .ok (.getfield 26, 3) := by decide +kernel
theorem dX9_plan_51 : decode cX9_plan 51 = .ok (.getfield 136, 3) := by decide +kernel
theorem dX9_plan_54 : decode cX9_plan 54 = .ok (.invokevirtual 125, 3) := by decide +kernel
theorem dX9_plan_57 : decode cX9_plan 57 = .ok (.ireturn, 1) := by decide +kernel
theorem dX9_fault_0 : decode cX9_fault 0 = .ok (.aload_n 0, 1) := by decide +kernel
theorem dX9_fault_1 : decode cX9_fault 1 = .ok (.getfield 94, 3) := by decide +kernel
theorem dX9_fault_4 : decode cX9_fault 4 = .ok (.ireturn, 1) := by decide +kernel
theorem dX9_sentence_0 : decode cX9_sentence 0 = .ok (.new 137, 3) := by decide +kernel
theorem dX9_sentence_3 : decode cX9_sentence 3 = .ok (.dup, 1) := by decide +kernel
theorem dX9_sentence_4 : decode cX9_sentence 4 = .ok (.invokespecial 139, 3) := by decide +kernel
theorem dX9_sentence_7 : decode cX9_sentence 7 = .ok (.astore_n 1, 1) := by decide +kernel
theorem dX9_sentence_8 : decode cX9_sentence 8 = .ok (.aload_n 0, 1) := by decide +kernel
theorem dX9_sentence_9 : decode cX9_sentence 9 = .ok (.getfield 12, 3) := by decide +kernel
theorem dX9_sentence_12 : decode cX9_sentence 12 = .ok (.sipush 200, 3) := by decide +kernel
theorem dX9_sentence_15 : decode cX9_sentence 15 = .ok (.invokevirtual 112, 3) := by decide +kernel
theorem dX9_sentence_18 : decode cX9_sentence 18 = .ok (.aload_n 1, 1) := by decide +kernel
theorem dX9_sentence_19 : decode cX9_sentence 19 = .ok (.aload_n 0, 1) := by decide +kernel
theorem dX9_sentence_20 : decode cX9_sentence 20 = .ok (.getfield 12, 3) := by decide +kernel
theorem dX9_sentence_23 : decode cX9_sentence 23 = .ok (.aload_n 0, 1) := by decide +kernel
theorem dX9_sentence_24 : decode cX9_sentence 24 = .ok (.getfield 64, 3) := by decide +kernel
theorem dX9_sentence_27 : decode cX9_sentence 27 = .ok (.iconst 1, 1) := by decide +kernel
theorem dX9_sentence_28 : decode cX9_sentence 28 = .ok (.invokevirtual 140, 3) := by decide +kernel
theorem dX9_sentence_31 : decode cX9_sentence 31 = .ok (.istore_n 2, 1) := by decide +kernel
theorem dX9_sentence_32 : decode cX9_sentence 32 = .ok (.iload_n 2, 1) := by decide +kernel
theorem dX9_sentence_33 : decode cX9_sentence 33 = .ok (.ifCond .eq 8, 3) := by decide +kernel
theorem dX9_sentence_36 : decode cX9_sentence 36 = .ok (.aload_n 0, 1) := by decide +kernel
theorem dX9_sentence_37 : decode cX9_sentence 37 = .ok (.aload_n 1, 1) := by decide +kernel
theorem dX9_sentence_38 : decode cX9_sentence 38 = .ok (.putfield 68, 3) := by decide +kernel
theorem dX9_sentence_41 : decode cX9_sentence 41 = .ok (.aload_n 0, 1) := by decide +kernel
theorem dX9_sentence_42 : decode cX9_sentence 42 = .ok (.iload_n 2, 1) := by decide +kernel
theorem dX9_sentence_43 : decode cX9_sentence 43 = .ok (.aload_n 1, 1) := by decide +kernel
theorem dX9_sentence_44 : decode cX9_sentence 44 = .ok (.getfield 144, 3) := by decide +kernel
theorem dX9_sentence_47 : decode cX9_sentence 47 = .ok (.invokevirtual 125, 3) := by decide +kernel
theorem dX9_sentence_50 : decode cX9_sentence 50 = .ok (.ireturn, 1) := by decide +kernel
theorem dX9_answerText_0 : decode cX9_answerText 0 = .ok (.aload_n 0, 1) := by decide +kernel
theorem dX9_answerText_1 : decode cX9_answerText 1 = .ok (.getfield 12, 3) := by decide +kernel
theorem dX9_answerText_4 : decode cX9_answerText 4 = .ok (.iconst 0, 1) := by decide +kernel
theorem dX9_answerText_5 : decode cX9_answerText 5 = .ok (.putfield 109, 3) := by decide +kernel
theorem dX9_answerText_8 : decode cX9_answerText 8 = .ok (.aload_n 0, 1) := by decide +kernel
theorem dX9_answerText_9 : decode cX9_answerText 9 = .ok (.iload_n 1, 1) := by decide +kernel
theorem dX9_answerText_10 : decode cX9_answerText 10 = .ok (.ifCond .eq 7, 3) := by decide +kernel
theorem dX9_answerText_13 : decode cX9_answerText 13 = .ok (.iconst 0, 1) := by decide +kernel
theorem dX9_answerText_14 : decode cX9_answerText 14 = .ok (.goto 10, 3) := by decide +kernel
theorem dX9_answerText_17 : decode cX9_answerText 17 = .ok (.aload_n 0, 1) := by decide +kernel
theorem dX9_answerText_18 : decode cX9_answerText 18 = .ok (.getfield 12, 3) := by decide +kernel
theorem dX9_answerText_21 : decode cX9_answerText 21 = .ok (.getfield 147, 3) := by decide +kernel
theorem dX9_answerText_24 : decode cX9_answerText 24 = .ok (.putfield 94, 3) := by decide +kernel
theorem dX9_answerText_27 : decode cX9_answerText 27 = .ok (.iload_n 1, 1) := by decide +kernel
theorem dX9_answerText_28 : decode cX9_answerText 28 = .ok (.ifCond .eq 7, 3) := by decide +kernel
theorem dX9_answerText_31 : decode cX9_answerText 31 = .ok (.iload_n 2, 1) := by decide +kernel
theorem dX9_answerText_32 : decode cX9_answerText 32 = .ok (.goto 12, 3) := by decide +kernel
theorem dX9_answerText_35 : decode cX9_answerText 35 = .ok (.iconst (-1), 1) := by decide +kernel
theorem dX9_answerText_36 : decode cX9_answerText 36 = .ok (.aload_n 0, 1) := by decide +kernel
theorem dX9_answerText_37 : decode cX9_answerText 37 = .ok (.getfield 12, 3) := by decide +kernel
theorem dX9_answerText_40 : decode cX9_answerText 40 = .ok (.getfield 150, 3) := by decide +kernel
theorem dX9_answerText_43 : decode cX9_answerText 43 = .ok (.isub, 1) := by decide +kernel
theorem dX9_answerText_44 : decode cX9_answerText 44 = .ok (.ireturn, 1) := by decide +kernel
theorem dX9_man_0 : decode cX9_man 0 = .ok (.iload_n 1, 1) := by decide +kernel
theorem dX9_man_1 : decode cX9_man 1 = .ok (.ifCond .lt 23, 3) := by decide +kernel
theorem dX9_man_4 : decode cX9_man 4 = .ok (.iload_n 1, 1) := by decide +kernel
theorem dX9_man_5 : decode cX9_man 5 = .ok (.aload_n 0, 1) := by decide +kernel
theorem dX9_man_6 : decode cX9_man 6 = .ok (.getfield 64, 3) := by decide +kernel
theorem dX9_man_9 : decode cX9_man 9 = .ok (.getfield 153, 3) := by decide +kernel
theorem dX9_man_12 : decode cX9_man 12 = .ok (.if_icmp .ge 12, 3) := by decide +kernel
theorem dX9_man_15 : decode cX9_man 15 = .ok (.iload_n 2, 1) := by decide +kernel
theorem dX9_man_16 : decode cX9_man 16 = .ok (.ifCond .lt 8, 3) := by decide +kernel
theorem dX9_man_19 : decode cX9_man 19 = .ok (.iload_n 2, 1) := by decide +kernel
theorem dX9_man_20 : decode cX9_man 20 = .ok (.iconst 4, 1) := by decide +kernel
theorem dX9_man_21 : decode cX9_man 21 = .ok (.if_icmp .le 13, 3) := by decide +kernel
theorem dX9_man_24 : decode cX9_man 24 = .ok (.new 156, 3) := by decide +kernel
theorem dX9_man_27 : decode cX9_man 27 = .ok (.dup, 1) := by decide +kernel
theorem dX9_man_28 : decode cX9_man 28 = .ok (.ldc 158, 2) := by decide +kernel
theorem dX9_man_30 : decode cX9_man 30 = .ok (.invokespecial 160, 3) := by decide +kernel
theorem dX9_man_33 : decode cX9_man 33 = .ok (.athrow, 1) := by decide +kernel
theorem dX9_man_34 : decode cX9_man 34 = .ok (.iload_n 2, 1) := by decide +kernel
theorem dX9_man_35 : decode cX9_man 35 = .ok (.ifCond .ne 13, 3) := by decide +kernel
theorem dX9_man_38 : decode cX9_man 38 = .ok (.aload_n 0, 1) := by decide +kernel
theorem dX9_man_39 : decode cX9_man 39 = .ok (.getfield 64, 3) := by decide +kernel
theorem dX9_man_42 : decode cX9_man 42 = .ok (.getfield 163, 3) := by decide +kernel
theorem dX9_man_45 : decode cX9_man 45 = .ok (.iload_n 1, 1) := by decide +kernel
theorem dX9_man_46 : decode cX9_man 46 = .ok (.iaload, 1) := by decide +kernel
theorem dX9_man_47 : decode cX9_man 47 = .ok (.ireturn, 1) := by decide +kernel
theorem dX9_man_48 : decode cX9_man 48 = .ok (.iload_n 2, 1) := by decide +kernel
theorem dX9_man_49 : decode cX9_man 49 = .ok (.iconst 1, 1) := by decide +kernel
theorem dX9_man_50 : decode cX9_man 50 = .ok (.if_icmp .ne 13, 3) := by decide +kernel
theorem dX9_man_53 : decode cX9_man 53 = .ok (.aload_n 0, 1) := by decide +kernel
theorem dX9_man_54 : decode cX9_man 54 = .ok (.getfield 64, 3) := by decide +kernel
theorem dX9_man_57 : decode cX9_man 57 = .ok (.getfield 167, 3) := by decide +kernel
theorem dX9_man_60 : decode cX9_man 60 = .ok (.iload_n 1, 1) := by decide +kernel
theorem dX9_man_61 : decode cX9_man 61 = .ok (.iaload, 1) := by decide +kernel
theorem dX9_man_62 : decode cX9_man 62 = .ok (.ireturn, 1) := by decide +kernel
theorem dX9_man_63 : decode cX9_man 63 = .ok (.iload_n 2, 1) := by decide +kernel
theorem dX9_man_64 : decode cX9_man 64 = .ok (.iconst 2, 1) := by decide +kernel
theorem dX9_man_65 : decode cX9_man 65 = .ok (.if_icmp .ne 13, 3) := by decide +kernel
theorem dX9_man_68 : decode cX9_man 68 = .ok (.aload_n 0, 1) := by decide +kernel
theorem dX9_man_69 : decode cX9_man 69 = .ok (.getfield 64, 3) := by decide +kernel
theorem dX9_man_72 : decode cX9_man 72 = .ok (.getfield 170, 3) := by decide +kernel
theorem dX9_man_75 : decode cX9_man 75 = .ok (.iload_n 1, 1) := by decide +kernel
theorem dX9_man_76 : decode cX9_man 76 = .ok (.iaload, 1) := by decide +kernel
theorem dX9_man_77 : decode cX9_man 77 = .ok (.ireturn, 1) := by decide +kernel
theorem dX9_man_78 : decode cX9_man 78 = .ok (.aload_n 0, 1) := by decide +kernel
theorem dX9_man_79 : decode cX9_man 79 = .ok (.getfield 19, 3) := by decide +kernel
theorem dX9_man_82 : decode cX9_man 82 = .ok (.iload_n 1, 1) := by decide +kernel
theorem dX9_man_83 : decode cX9_man 83 = .ok (.invokevirtual 173, 3) := by decide +kernel
theorem dX9_man_86 : decode cX9_man 86 = .ok (.istore_n 3, 1) := by decide +kernel
theorem dX9_man_87 : decode cX9_man 87 = .ok (.iload_n 2, 1) := by decide +kernel
theorem dX9_man_88 : decode cX9_man 88 = .ok (.iconst 3, 1) := by decide +kernel
theorem dX9_man_89 : decode cX9_man 89 = .ok (.if_icmp .eq 8, 3) := by decide +kernel
theorem dX9_man_92 : decode cX9_man 92 = .ok (.iload_n 3, 1) := by decide +kernel
theorem dX9_man_93 : decode cX9_man 93 = .ok (.iconst (-1), 1) := by decide +kernel
theorem dX9_man_94 : decode cX9_man 94 = .ok (.if_icmp .ne 5, 3) := by decide +kernel
theorem dX9_man_97 : decode cX9_man 97 = .ok (.iload_n 3, 1) := by decide +kernel
theorem dX9_man_98 : decode cX9_man 98 = .ok (.ireturn, 1) := by decide +kernel
theorem dX9_man_99 : decode cX9_man 99 = .ok (.aload_n 0, 1) := by decide +kernel
theorem dX9_man_100 : decode cX9_man 100 = .ok (.getfield 19, 3) := by decide +kernel
theorem dX9_man_103 : decode cX9_man 103 = .ok (.getfield 177, 3) := by decide +kernel
theorem dX9_man_106 : decode cX9_man 106 = .ok (.iload_n 3, 1) := by decide +kernel
theorem dX9_man_107 : decode cX9_man 107 = .ok (.iaload, 1) := by decide +kernel
theorem dX9_man_108 : decode cX9_man 108 = .ok (.ireturn, 1) := by decide +kernel
theorem dX9_bend_0 : decode cX9_bend 0 = .ok (.iload_n 1, 1) := by decide +kernel
theorem dX9_bend_1 : decode cX9_bend 1 = .ok (.ifCond .lt 14, 3) := by decide +kernel
theorem dX9_bend_4 : decode cX9_bend 4 = .ok (.iload_n 1, 1) := by decide +kernel
theorem dX9_bend_5 : decode cX9_bend 5 = .ok (.aload_n 0, 1) := by decide +kernel
theorem dX9_bend_6 : decode cX9_bend 6 = .ok (.getfield 64, 3) := by decide +kernel
theorem dX9_bend_9 : decode cX9_bend 9 = .ok (.getfield 180, 3) := by decide +kernel
theorem dX9_bend_12 : decode cX9_bend 12 = .ok (.if_icmp .lt 5, 3) := by decide +kernel
theorem dX9_bend_15 : decode cX9_bend 15 = .ok (.iconst (-1), 1) := by decide +kernel
theorem dX9_bend_16 : decode cX9_bend 16 = .ok (.ireturn, 1) := by decide +kernel
theorem dX9_bend_17 : decode cX9_bend 17 = .ok (.iload_n 2, 1) := by decide +kernel
theorem dX9_bend_18 : decode cX9_bend 18 = .ok (.tableswitch 84 0 4 #[34, 44, 54, 64, 74], 34) := by decide +kernel
theorem dX9_bend_52 : decode cX9_bend 52 = .ok (.aload_n 0, 1) := by decide +kernel
theorem dX9_bend_53 : decode cX9_bend 53 = .ok (.getfield 64, 3) := by decide +kernel
theorem dX9_bend_56 : decode cX9_bend 56 = .ok (.getfield 183, 3) := by decide +kernel
theorem dX9_bend_59 : decode cX9_bend 59 = .ok (.iload_n 1, 1) := by decide +kernel
theorem dX9_bend_60 : decode cX9_bend 60 = .ok (.iaload, 1) := by decide +kernel
theorem dX9_bend_61 : decode cX9_bend 61 = .ok (.ireturn, 1) := by decide +kernel
theorem dX9_bend_62 : decode cX9_bend 62 = .ok (.aload_n 0, 1) := by decide +kernel
theorem dX9_bend_63 : decode cX9_bend 63 = .ok (.getfield 64, 3) := by decide +kernel
theorem dX9_bend_66 : decode cX9_bend 66 = .ok (.getfield 185, 3) := by decide +kernel
theorem dX9_bend_69 : decode cX9_bend 69 = .ok (.iload_n 1, 1) := by decide +kernel
theorem dX9_bend_70 : decode cX9_bend 70 = .ok (.iaload, 1) := by decide +kernel
theorem dX9_bend_71 : decode cX9_bend 71 = .ok (.ireturn, 1) := by decide +kernel
theorem dX9_bend_72 : decode cX9_bend 72 = .ok (.aload_n 0, 1) := by decide +kernel
theorem dX9_bend_73 : decode cX9_bend 73 = .ok (.getfield 64, 3) := by decide +kernel
theorem dX9_bend_76 : decode cX9_bend 76 = .ok (.getfield 188, 3) := by decide +kernel
theorem dX9_bend_79 : decode cX9_bend 79 = .ok (.iload_n 1, 1) := by decide +kernel
theorem dX9_bend_80 : decode cX9_bend 80 = .ok (.iaload, 1) := by decide +kernel
theorem dX9_bend_81 : decode cX9_bend 81 = .ok (.ireturn, 1) := by decide +kernel
theorem dX9_bend_82 : decode cX9_bend 82 = .ok (.aload_n 0, 1) := by decide +kernel
theorem dX9_bend_83 : decode cX9_bend 83 = .ok (.getfield 64, 3) := by decide +kernel
theorem dX9_bend_86 : decode cX9_bend 86 = .ok (.getfield 191, 3) := by decide +kernel
theorem dX9_bend_89 : decode cX9_bend 89 = .ok (.iload_n 1, 1) := by decide +kernel
theorem dX9_bend_90 : decode cX9_bend 90 = .ok (.iaload, 1) := by decide +kernel
theorem dX9_bend_91 : decode cX9_bend 91 = .ok (.ireturn, 1) := by decide +kernel
theorem dX9_bend_92 : decode cX9_bend 92 = .ok (.aload_n 0, 1) := by decide +kernel
theorem dX9_bend_93 : decode cX9_bend 93 = .ok (.getfield 19, 3) := by decide +kernel
theorem dX9_bend_96 : decode cX9_bend 96 = .ok (.getfield 194, 3) := by decide +kernel
theorem dX9_bend_99 : decode cX9_bend 99 = .ok (.iload_n 1, 1) := by decide +kernel
theorem dX9_bend_100 : decode cX9_bend 100 = .ok (.iaload, 1) := by decide +kernel
theorem dX9_bend_101 : decode cX9_bend 101 = .ok (.ireturn, 1) := by decide +kernel
theorem dX9_bend_102 : decode cX9_bend 102 = .ok (.iconst (-1), 1) := by decide +kernel
theorem dX9_bend_103 : decode cX9_bend 103 = .ok (.ireturn, 1) := by decide +kernel
theorem dX9_runner_0 : decode cX9_runner 0 = .ok (.iload_n 1, 1) := by decide +kernel
theorem dX9_runner_1 : decode cX9_runner 1 = .ok (.ifCond .lt 14, 3) := by decide +kernel
theorem dX9_runner_4 : decode cX9_runner 4 = .ok (.iload_n 1, 1) := by decide +kernel
theorem dX9_runner_5 : decode cX9_runner 5 = .ok (.aload_n 0, 1) := by decide +kernel
theorem dX9_runner_6 : decode cX9_runner 6 = .ok (.getfield 64, 3) := by decide +kernel
theorem dX9_runner_9 : decode cX9_runner 9 = .ok (.getfield 197, 3) := by decide +kernel
theorem dX9_runner_12 : decode cX9_runner 12 = .ok (.if_icmp .lt 5, 3) := by decide +kernel
theorem dX9_runner_15 : decode cX9_runner 15 = .ok (.iconst (-1), 1) := by decide +kernel
theorem dX9_runner_16 : decode cX9_runner 16 = .ok (.ireturn, 1) := by decide +kernel
theorem dX9_runner_17 : decode cX9_runner 17 = .ok (.iload_n 2, 1) := by decide +kernel
theorem dX9_runner_18 : decode cX9_runner 18 = .ok (.tableswitch 62 0 2 #[26, 36, 46], 26) := by decide +kernel
theorem dX9_runner_44 : decode cX9_runner 44 = .ok (.aload_n 0, 1) := by decide +kernel
theorem dX9_runner_45 : decode cX9_runner 45 = .ok (.getfield 64, 3) := by decide +kernel
theorem dX9_runner_48 : decode cX9_runner 48 = .ok (.getfield 200, 3) := by decide +kernel
theorem dX9_runner_51 : decode cX9_runner 51 = .ok (.iload_n 1, 1) := by decide +kernel
theorem dX9_runner_52 : decode cX9_runner 52 = .ok (.iaload, 1) := by decide +kernel
theorem dX9_runner_53 : decode cX9_runner 53 = .ok (.ireturn, 1) := by decide +kernel
theorem dX9_runner_54 : decode cX9_runner 54 = .ok (.aload_n 0, 1) := by decide +kernel
theorem dX9_runner_55 : decode cX9_runner 55 = .ok (.getfield 64, 3) := by decide +kernel
theorem dX9_runner_58 : decode cX9_runner 58 = .ok (.getfield 203, 3) := by decide +kernel
theorem dX9_runner_61 : decode cX9_runner 61 = .ok (.iload_n 1, 1) := by decide +kernel
theorem dX9_runner_62 : decode cX9_runner 62 = .ok (.iaload, 1) := by decide +kernel
theorem dX9_runner_63 : decode cX9_runner 63 = .ok (.ireturn, 1) := by decide +kernel
theorem dX9_runner_64 : decode cX9_runner 64 = .ok (.aload_n 0, 1) := by decide +kernel
theorem dX9_runner_65 : decode cX9_runner 65 = .ok (.getfield 64, 3) := by decide +kernel
theorem dX9_runner_68 : decode cX9_runner 68 = .ok (.iload_n 1, 1) := by decide +kernel
theorem dX9_runner_69 : decode cX9_runner 69 = .ok (.aload_n 0, 1) := by decide +kernel
theorem dX9_runner_70 : decode cX9_runner 70 = .ok (.getfield 19, 3) := by decide +kernel
theorem dX9_runner_73 : decode cX9_runner 73 = .ok (.getfield 206, 3) := by decide +kernel
theorem dX9_runner_76 : decode cX9_runner 76 = .ok (.invokevirtual 209, 3) := by decide +kernel
theorem dX9_runner_79 : decode cX9_runner 79 = .ok (.ireturn, 1) := by decide +kernel
theorem dX9_runner_80 : decode cX9_runner 80 = .ok (.iconst (-1), 1) := by decide +kernel
theorem dX9_runner_81 : decode cX9_runner 81 = .ok (.ireturn, 1) := by decide +kernel
theorem dX9_count_0 : decode cX9_count 0 = .ok (.iload_n 1, 1) := by decide +kernel
theorem dX9_count_1 : decode cX9_count 1 = .ok (.ifCond .lt 18, 3) := by decide +kernel
theorem dX9_count_4 : decode cX9_count 4 = .ok (.iload_n 1, 1) := by decide +kernel
theorem dX9_count_5 : decode cX9_count 5 = .ok (.iconst 5, 1) := by decide +kernel
theorem dX9_count_6 : decode cX9_count 6 = .ok (.if_icmp .ge 13, 3) := by decide +kernel
theorem dX9_count_9 : decode cX9_count 9 = .ok (.aload_n 0, 1) := by decide +kernel
theorem dX9_count_10 : decode cX9_count 10 = .ok (.getfield 64, 3) := by decide +kernel
theorem dX9_count_13 : decode cX9_count 13 = .ok (.getfield 213, 3) := by decide +kernel
theorem dX9_count_16 : decode cX9_count 16 = .ok (.iload_n 1, 1) := by decide +kernel
theorem dX9_count_17 : decode cX9_count 17 = .ok (.iaload, 1) := by decide +kernel
theorem dX9_count_18 : decode cX9_count 18 = .ok (.ireturn, 1) := by decide +kernel
theorem dX9_count_19 : decode cX9_count 19 = .ok (.iload_n 1, 1) := by decide +kernel
theorem dX9_count_20 : decode cX9_count 20 = .ok (.tableswitch 120 5 12 #[48, 56, 64, 72, 80, 88, 96, 112], 48) := by decide +kernel
theorem dX9_count_68 : decode cX9_count 68 = .ok (.aload_n 0, 1) := by decide +kernel
theorem dX9_count_69 : decode cX9_count 69 = .ok (.getfield 64, 3) := by decide +kernel
theorem dX9_count_72 : decode cX9_count 72 = .ok (.getfield 153, 3) := by decide +kernel
theorem dX9_count_75 : decode cX9_count 75 = .ok (.ireturn, 1) := by decide +kernel
theorem dX9_count_76 : decode cX9_count 76 = .ok (.aload_n 0, 1) := by decide +kernel
theorem dX9_count_77 : decode cX9_count 77 = .ok (.getfield 64, 3) := by decide +kernel
theorem dX9_count_80 : decode cX9_count 80 = .ok (.getfield 180, 3) := by decide +kernel
theorem dX9_count_83 : decode cX9_count 83 = .ok (.ireturn, 1) := by decide +kernel
theorem dX9_count_84 : decode cX9_count 84 = .ok (.aload_n 0, 1) := by decide +kernel
theorem dX9_count_85 : decode cX9_count 85 = .ok (.getfield 64, 3) := by decide +kernel
theorem dX9_count_88 : decode cX9_count 88 = .ok (.getfield 197, 3) := by decide +kernel
theorem dX9_count_91 : decode cX9_count 91 = .ok (.ireturn, 1) := by decide +kernel
theorem dX9_count_92 : decode cX9_count 92 = .ok (.aload_n 0, 1) := by decide +kernel
theorem dX9_count_93 : decode cX9_count 93 = .ok (.getfield 19, 3) := by decide +kernel
theorem dX9_count_96 : decode cX9_count 96 = .ok (.getfield 216, 3) := by decide +kernel
theorem dX9_count_99 : decode cX9_count 99 = .ok (.ireturn, 1) := by decide +kernel
theorem dX9_count_100 : decode cX9_count 100 = .ok (.aload_n 0, 1) := by decide +kernel
theorem dX9_count_101 : decode cX9_count 101 = .ok (.getfield 19, 3) := by decide +kernel
theorem dX9_count_104 : decode cX9_count 104 = .ok (.getfield 219, 3) := by decide +kernel
theorem dX9_count_107 : decode cX9_count 107 = .ok (.ireturn, 1) := by decide +kernel
theorem dX9_count_108 : decode cX9_count 108 = .ok (.aload_n 0, 1) := by decide +kernel
theorem dX9_count_109 : decode cX9_count 109 = .ok (.getfield 19, 3) := by decide +kernel
theorem dX9_count_112 : decode cX9_count 112 = .ok (.getfield 206, 3) := by decide +kernel
theorem dX9_count_115 : decode cX9_count 115 = .ok (.ireturn, 1) := by decide +kernel
theorem dX9_count_116 : decode cX9_count 116 = .ok (.aload_n 0, 1) := by decide +kernel
theorem dX9_count_117 : decode cX9_count 117 = .ok (.getfield 19, 3) := by decide +kernel
theorem dX9_count_120 : decode cX9_count 120 = .ok (.getfield 222, 3) := by decide +kernel
theorem dX9_count_123 : decode cX9_count 123 = .ok (.ifCond .eq 7, 3) := by decide +kernel
theorem dX9_count_126 : decode cX9_count 126 = .ok (.iconst 1, 1) := by decide +kernel
theorem dX9_count_127 : decode cX9_count 127 = .ok (.goto 4, 3) := by decide +kernel
theorem dX9_count_130 : decode cX9_count 130 = .ok (.iconst 0, 1) := by decide +kernel
theorem dX9_count_131 : decode cX9_count 131 = .ok (.ireturn, 1) := by decide +kernel
theorem dX9_count_132 : decode cX9_count 132 = .ok (.aload_n 0, 1) := by decide +kernel
theorem dX9_count_133 : decode cX9_count 133 = .ok (.getfield 12, 3) := by decide +kernel
theorem dX9_count_136 : decode cX9_count 136 = .ok (.getfield 109, 3) := by decide +kernel
theorem dX9_count_139 : decode cX9_count 139 = .ok (.ireturn, 1) := by decide +kernel
theorem dX9_count_140 : decode cX9_count 140 = .ok (.iconst (-1), 1) := by decide +kernel
theorem dX9_count_141 : decode cX9_count 141 = .ok (.ireturn, 1) := by decide +kernel
theorem dX9_start_0 : decode cX9_start 0 = .ok (.aload_n 0, 1) := by decide +kernel
theorem dX9_start_1 : decode cX9_start 1 = .ok (.getfield 19, 3) := by decide +kernel
theorem dX9_start_4 : decode cX9_start 4 = .ok (.getfield 222, 3) := by decide +kernel
theorem dX9_start_7 : decode cX9_start 7 = .ok (.ifCond .ne 5, 3) := by decide +kernel
theorem dX9_start_10 : decode cX9_start 10 = .ok (.iconst (-1), 1) := by decide +kernel
theorem dX9_start_11 : decode cX9_start 11 = .ok (.ireturn, 1) := by decide +kernel
theorem dX9_start_12 : decode cX9_start 12 = .ok (.aload_n 0, 1) := by decide +kernel
theorem dX9_start_13 : decode cX9_start 13 = .ok (.getfield 32, 3) := by decide +kernel
theorem dX9_start_16 : decode cX9_start 16 = .ok (.aload_n 0, 1) := by decide +kernel
theorem dX9_start_17 : decode cX9_start 17 = .ok (.getfield 64, 3) := by decide +kernel
theorem dX9_start_20 : decode cX9_start 20 = .ok (.aload_n 0, 1) := by decide +kernel
theorem dX9_start_21 : decode cX9_start 21 = .ok (.getfield 19, 3) := by decide +kernel
theorem dX9_start_24 : decode cX9_start 24 = .ok (.invokevirtual 225, 3) := by decide +kernel
theorem dX9_start_27 : decode cX9_start 27 = .ok (.pop, 1) := by decide +kernel
theorem dX9_start_28 : decode cX9_start 28 = .ok (.iload_n 1, 1) := by decide +kernel
theorem dX9_start_29 : decode cX9_start 29 = .ok (.tableswitch 75 0 4 #[35, 43, 51, 59, 67], 35) := by decide +kernel
theorem dX9_start_64 : decode cX9_start 64 = .ok (.aload_n 0, 1) := by decide +kernel
theorem dX9_start_65 : decode cX9_start 65 = .ok (.getfield 32, 3) := by decide +kernel
theorem dX9_start_68 : decode cX9_start 68 = .ok (.getfield 229, 3) := by decide +kernel
theorem dX9_start_71 : decode cX9_start 71 = .ok (.ireturn, 1) := by decide +kernel
theorem dX9_start_72 : decode cX9_start 72 = .ok (.aload_n 0, 1) := by decide +kernel
theorem dX9_start_73 : decode cX9_start 73 = .ok (.getfield 32, 3) := by decide +kernel
theorem dX9_start_76 : decode cX9_start 76 = .ok (.getfield 232, 3) := by decide +kernel
theorem dX9_start_79 : decode cX9_start 79 = .ok (.ireturn, 1) := by decide +kernel
theorem dX9_start_80 : decode cX9_start 80 = .ok (.aload_n 0, 1) := by decide +kernel
theorem dX9_start_81 : decode cX9_start 81 = .ok (.getfield 32, 3) := by decide +kernel
theorem dX9_start_84 : decode cX9_start 84 = .ok (.getfield 235, 3) := by decide +kernel
theorem dX9_start_87 : decode cX9_start 87 = .ok (.ireturn, 1) := by decide +kernel
theorem dX9_start_88 : decode cX9_start 88 = .ok (.aload_n 0, 1) := by decide +kernel
theorem dX9_start_89 : decode cX9_start 89 = .ok (.getfield 32, 3) := by decide +kernel
theorem dX9_start_92 : decode cX9_start 92 = .ok (.getfield 238, 3) := by decide +kernel
theorem dX9_start_95 : decode cX9_start 95 = .ok (.ireturn, 1) := by decide +kernel
theorem dX9_start_96 : decode cX9_start 96 = .ok (.aload_n 0, 1) := by decide +kernel
theorem dX9_start_97 : decode cX9_start 97 = .ok (.getfield 32, 3) := by decide +kernel
theorem dX9_start_100 : decode cX9_start 100 = .ok (.getfield 241, 3) := by decide +kernel
theorem dX9_start_103 : decode cX9_start 103 = .ok (.ireturn, 1) := by decide +kernel
theorem dX9_start_104 : decode cX9_start 104 = .ok (.iconst (-1), 1) := by decide +kernel
theorem dX9_start_105 : decode cX9_start 105 = .ok (.ireturn, 1) := by decide +kernel
theorem dX9_pace_0 : decode cX9_pace 0 = .ok (.aload_n 0, 1) := by decide +kernel
theorem dX9_pace_1 : decode cX9_pace 1 = .ok (.getfield 19, 3) := by decide +kernel
theorem dX9_pace_4 : decode cX9_pace 4 = .ok (.getfield 222, 3) := by decide +kernel
theorem dX9_pace_7 : decode cX9_pace 7 = .ok (.ifCond .eq 20, 3) := by decide +kernel
theorem dX9_pace_10 : decode cX9_pace 10 = .ok (.iload_n 1, 1) := by decide +kernel
theorem dX9_pace_11 : decode cX9_pace 11 = .ok (.ifCond .lt 16, 3) := by decide +kernel
theorem dX9_pace_14 : decode cX9_pace 14 = .ok (.iload_n 1, 1) := by decide +kernel
theorem dX9_pace_15 : decode cX9_pace 15 = .ok (.aload_n 0, 1) := by decide +kernel
theorem dX9_pace_16 : decode cX9_pace 16 = .ok (.getfield 64, 3) := by decide +kernel
theorem dX9_pace_19 : decode cX9_pace 19 = .ok (.getfield 213, 3) := by decide +kernel
theorem dX9_pace_22 : decode cX9_pace 22 = .ok (.iconst 0, 1) := by decide +kernel
theorem dX9_pace_23 : decode cX9_pace 23 = .ok (.iaload, 1) := by decide +kernel
theorem dX9_pace_24 : decode cX9_pace 24 = .ok (.if_icmp .lt 5, 3) := by decide +kernel
theorem dX9_pace_27 : decode cX9_pace 27 = .ok (.iconst (-1), 1) := by decide +kernel
theorem dX9_pace_28 : decode cX9_pace 28 = .ok (.ireturn, 1) := by decide +kernel
theorem dX9_pace_29 : decode cX9_pace 29 = .ok (.aload_n 0, 1) := by decide +kernel
theorem dX9_pace_30 : decode cX9_pace 30 = .ok (.getfield 32, 3) := by decide +kernel
theorem dX9_pace_33 : decode cX9_pace 33 = .ok (.aload_n 0, 1) := by decide +kernel
theorem dX9_pace_34 : decode cX9_pace 34 = .ok (.getfield 64, 3) := by decide +kernel
theorem dX9_pace_37 : decode cX9_pace 37 = .ok (.aload_n 0, 1) := by decide +kernel
theorem dX9_pace_38 : decode cX9_pace 38 = .ok (.getfield 19, 3) := by decide +kernel
theorem dX9_pace_41 : decode cX9_pace 41 = .ok (.invokevirtual 225, 3) := by decide +kernel
theorem dX9_pace_44 : decode cX9_pace 44 = .ok (.pop, 1) := by decide +kernel
theorem dX9_pace_45 : decode cX9_pace 45 = .ok (.aload_n 0, 1) := by decide +kernel
theorem dX9_pace_46 : decode cX9_pace 46 = .ok (.getfield 32, 3) := by decide +kernel
theorem dX9_pace_49 : decode cX9_pace 49 = .ok (.getfield 243, 3) := by decide +kernel
theorem dX9_pace_52 : decode cX9_pace 52 = .ok (.iload_n 1, 1) := by decide +kernel
theorem dX9_pace_53 : decode cX9_pace 53 = .ok (.iaload, 1) := by decide +kernel
theorem dX9_pace_54 : decode cX9_pace 54 = .ok (.ireturn, 1) := by decide +kernel
theorem dX9_jumps_0 : decode cX9_jumps 0 = .ok (.aload_n 0, 1) := by decide +kernel
theorem dX9_jumps_1 : decode cX9_jumps 1 = .ok (.getfield 19, 3) := by decide +kernel
theorem dX9_jumps_4 : decode cX9_jumps 4 = .ok (.getfield 222, 3) := by decide +kernel
theorem dX9_jumps_7 : decode cX9_jumps 7 = .ok (.ifCond .eq 12, 3) := by decide +kernel
theorem dX9_jumps_10 : decode cX9_jumps 10 = .ok (.iload_n 1, 1) := by decide +kernel
theorem dX9_jumps_11 : decode cX9_jumps 11 = .ok (.ifCond .lt 8, 3) := by decide +kernel
theorem dX9_jumps_14 : decode cX9_jumps 14 = .ok (.iload_n 1, 1) := by decide +kernel
theorem dX9_jumps_15 : decode cX9_jumps 15 = .ok (.iconst 4, 1) := by decide +kernel
theorem dX9_jumps_16 : decode cX9_jumps 16 = .ok (.if_icmp .lt 5, 3) := by decide +kernel
theorem dX9_jumps_19 : decode cX9_jumps 19 = .ok (.iconst (-1), 1) := by decide +kernel
theorem dX9_jumps_20 : decode cX9_jumps 20 = .ok (.ireturn, 1) := by decide +kernel
theorem dX9_jumps_21 : decode cX9_jumps 21 = .ok (.aload_n 0, 1) := by decide +kernel
theorem dX9_jumps_22 : decode cX9_jumps 22 = .ok (.getfield 32, 3) := by decide +kernel
theorem dX9_jumps_25 : decode cX9_jumps 25 = .ok (.aload_n 0, 1) := by decide +kernel
theorem dX9_jumps_26 : decode cX9_jumps 26 = .ok (.getfield 64, 3) := by decide +kernel
theorem dX9_jumps_29 : decode cX9_jumps 29 = .ok (.aload_n 0, 1) := by decide +kernel
theorem dX9_jumps_30 : decode cX9_jumps 30 = .ok (.getfield 19, 3) := by decide +kernel
theorem dX9_jumps_33 : decode cX9_jumps 33 = .ok (.invokevirtual 225, 3) := by decide +kernel
theorem dX9_jumps_36 : decode cX9_jumps 36 = .ok (.pop, 1) := by decide +kernel
theorem dX9_jumps_37 : decode cX9_jumps 37 = .ok (.aload_n 0, 1) := by decide +kernel
theorem dX9_jumps_38 : decode cX9_jumps 38 = .ok (.getfield 32, 3) := by decide +kernel
theorem dX9_jumps_41 : decode cX9_jumps 41 = .ok (.getfield 246, 3) := by decide +kernel
theorem dX9_jumps_44 : decode cX9_jumps 44 = .ok (.iload_n 1, 1) := by decide +kernel
theorem dX9_jumps_45 : decode cX9_jumps 45 = .ok (.iaload, 1) := by decide +kernel
theorem dX9_jumps_46 : decode cX9_jumps 46 = .ok (.ireturn, 1) := by decide +kernel
theorem dX9_run_0 : decode cX9_run 0 = .ok (.aload_n 0, 1) := by decide +kernel
theorem dX9_run_1 : decode cX9_run 1 = .ok (.getfield 19, 3) := by decide +kernel
theorem dX9_run_4 : decode cX9_run 4 = .ok (.getfield 222, 3) := by decide +kernel
theorem dX9_run_7 : decode cX9_run 7 = .ok (.ifCond .ne 5, 3) := by decide +kernel
theorem dX9_run_10 : decode cX9_run 10 = .ok (.iconst (-1), 1) := by decide +kernel
theorem dX9_run_11 : decode cX9_run 11 = .ok (.ireturn, 1) := by decide +kernel
theorem dX9_run_12 : decode cX9_run 12 = .ok (.aload_n 0, 1) := by decide +kernel
theorem dX9_run_13 : decode cX9_run 13 = .ok (.getfield 32, 3) := by decide +kernel
theorem dX9_run_16 : decode cX9_run 16 = .ok (.aload_n 0, 1) := by decide +kernel
theorem dX9_run_17 : decode cX9_run 17 = .ok (.getfield 64, 3) := by decide +kernel
theorem dX9_run_20 : decode cX9_run 20 = .ok (.aload_n 0, 1) := by decide +kernel
theorem dX9_run_21 : decode cX9_run 21 = .ok (.getfield 19, 3) := by decide +kernel
theorem dX9_run_24 : decode cX9_run 24 = .ok (.invokevirtual 225, 3) := by decide +kernel
theorem dX9_run_27 : decode cX9_run 27 = .ok (.pop, 1) := by decide +kernel
theorem dX9_run_28 : decode cX9_run 28 = .ok (.iload_n 1, 1) := by decide +kernel
theorem dX9_run_29 : decode cX9_run 29 = .ok (.tableswitch 63 0 3 #[31, 39, 47, 55], 31) := by decide +kernel
theorem dX9_run_60 : decode cX9_run 60 = .ok (.aload_n 0, 1) := by decide +kernel
theorem dX9_run_61 : decode cX9_run 61 = .ok (.getfield 32, 3) := by decide +kernel
theorem dX9_run_64 : decode cX9_run 64 = .ok (.getfield 249, 3) := by decide +kernel
theorem dX9_run_67 : decode cX9_run 67 = .ok (.ireturn, 1) := by decide +kernel
theorem dX9_run_68 : decode cX9_run 68 = .ok (.aload_n 0, 1) := by decide +kernel
theorem dX9_run_69 : decode cX9_run 69 = .ok (.getfield 32, 3) := by decide +kernel
theorem dX9_run_72 : decode cX9_run 72 = .ok (.getfield 252, 3) := by decide +kernel
theorem dX9_run_75 : decode cX9_run 75 = .ok (.ireturn, 1) := by decide +kernel
theorem dX9_run_76 : decode cX9_run 76 = .ok (.aload_n 0, 1) := by decide +kernel
theorem dX9_run_77 : decode cX9_run 77 = .ok (.getfield 32, 3) := by decide +kernel
theorem dX9_run_80 : decode cX9_run 80 = .ok (.getfield 255, 3) := by decide +kernel
theorem dX9_run_83 : decode cX9_run 83 = .ok (.ireturn, 1) := by decide +kernel
theorem dX9_run_84 : decode cX9_run 84 = .ok (.aload_n 0, 1) := by decide +kernel
theorem dX9_run_85 : decode cX9_run 85 = .ok (.getfield 32, 3) := by decide +kernel
theorem dX9_run_88 : decode cX9_run 88 = .ok (.getfield 258, 3) := by decide +kernel
theorem dX9_run_91 : decode cX9_run 91 = .ok (.ireturn, 1) := by decide +kernel
theorem dX9_run_92 : decode cX9_run 92 = .ok (.iconst (-1), 1) := by decide +kernel
theorem dX9_run_93 : decode cX9_run 93 = .ok (.ireturn, 1) := by decide +kernel
theorem dX9_behind_0 : decode cX9_behind 0 = .ok (.aload_n 0, 1) := by decide +kernel
theorem dX9_behind_1 : decode cX9_behind 1 = .ok (.getfield 19, 3) := by decide +kernel
theorem dX9_behind_4 : decode cX9_behind 4 = .ok (.getfield 222, 3) := by decide +kernel
theorem dX9_behind_7 : decode cX9_behind 7 = .ok (.ifCond .eq 18, 3) := by decide +kernel
theorem dX9_behind_10 : decode cX9_behind 10 = .ok (.iload_n 1, 1) := by decide +kernel
theorem dX9_behind_11 : decode cX9_behind 11 = .ok (.ifCond .lt 14, 3) := by decide +kernel
theorem dX9_behind_14 : decode cX9_behind 14 = .ok (.iload_n 1, 1) := by decide +kernel
theorem dX9_behind_15 : decode cX9_behind 15 = .ok (.aload_n 0, 1) := by decide +kernel
theorem dX9_behind_16 : decode cX9_behind 16 = .ok (.getfield 64, 3) := by decide +kernel
theorem dX9_behind_19 : decode cX9_behind 19 = .ok (.getfield 180, 3) := by decide +kernel
theorem dX9_behind_22 : decode cX9_behind 22 = .ok (.if_icmp .lt 5, 3) := by decide +kernel
theorem dX9_behind_25 : decode cX9_behind 25 = .ok (.iconst (-1), 1) := by decide +kernel
theorem dX9_behind_26 : decode cX9_behind 26 = .ok (.ireturn, 1) := by decide +kernel
theorem dX9_behind_27 : decode cX9_behind 27 = .ok (.aload_n 0, 1) := by decide +kernel
theorem dX9_behind_28 : decode cX9_behind 28 = .ok (.getfield 32, 3) := by decide +kernel
theorem dX9_behind_31 : decode cX9_behind 31 = .ok (.aload_n 0, 1) := by decide +kernel
theorem dX9_behind_32 : decode cX9_behind 32 = .ok (.getfield 64, 3) := by decide +kernel
theorem dX9_behind_35 : decode cX9_behind 35 = .ok (.aload_n 0, 1) := by decide +kernel
theorem dX9_behind_36 : decode cX9_behind 36 = .ok (.getfield 19, 3) := by decide +kernel
theorem dX9_behind_39 : decode cX9_behind 39 = .ok (.invokevirtual 225, 3) := by decide +kernel
theorem dX9_behind_42 : decode cX9_behind 42 = .ok (.pop, 1) := by decide +kernel
theorem dX9_behind_43 : decode cX9_behind 43 = .ok (.iload_n 1, 1) := by decide +kernel
theorem dX9_behind_44 : decode cX9_behind 44 = .ok (.aload_n 0, 1) := by decide +kernel
theorem dX9_behind_45 : decode cX9_behind 45 = .ok (.getfield 32, 3) := by decide +kernel
theorem dX9_behind_48 : decode cX9_behind 48 = .ok (.getfield 255, 3) := by decide +kernel
theorem dX9_behind_51 : decode cX9_behind 51 = .ok (.if_icmp .ge 15, 3) := by decide +kernel
theorem dX9_behind_54 : decode cX9_behind 54 = .ok (.aload_n 0, 1) := by decide +kernel
theorem dX9_behind_55 : decode cX9_behind 55 = .ok (.getfield 32, 3) := by decide +kernel
theorem dX9_behind_58 : decode cX9_behind 58 = .ok (.getfield 261, 3) := by decide +kernel
theorem dX9_behind_61 : decode cX9_behind 61 = .ok (.iload_n 1, 1) := by decide +kernel
theorem dX9_behind_62 : decode cX9_behind 62 = .ok (.iaload, 1) := by decide +kernel
theorem dX9_behind_63 : decode cX9_behind 63 = .ok (.goto 4, 3) := by decide +kernel
theorem dX9_behind_66 : decode cX9_behind 66 = .ok (.iconst (-1), 1) := by decide +kernel
theorem dX9_behind_67 : decode cX9_behind 67 = .ok (.ireturn, 1) := by decide +kernel
theorem dX9_room_0 : decode cX9_room 0 = .ok (.aload_n 0, 1) := by decide +kernel
theorem dX9_room_1 : decode cX9_room 1 = .ok (.getfield 19, 3) := by decide +kernel
theorem dX9_room_4 : decode cX9_room 4 = .ok (.getfield 222, 3) := by decide +kernel
theorem dX9_room_7 : decode cX9_room 7 = .ok (.ifCond .ne 5, 3) := by decide +kernel
theorem dX9_room_10 : decode cX9_room 10 = .ok (.iconst (-1), 1) := by decide +kernel
theorem dX9_room_11 : decode cX9_room 11 = .ok (.ireturn, 1) := by decide +kernel
theorem dX9_room_12 : decode cX9_room 12 = .ok (.aload_n 0, 1) := by decide +kernel
theorem dX9_room_13 : decode cX9_room 13 = .ok (.getfield 32, 3) := by decide +kernel
theorem dX9_room_16 : decode cX9_room 16 = .ok (.aload_n 0, 1) := by decide +kernel
theorem dX9_room_17 : decode cX9_room 17 = .ok (.getfield 64, 3) := by decide +kernel
theorem dX9_room_20 : decode cX9_room 20 = .ok (.aload_n 0, 1) := by decide +kernel
theorem dX9_room_21 : decode cX9_room 21 = .ok (.getfield 19, 3) := by decide +kernel
theorem dX9_room_24 : decode cX9_room 24 = .ok (.invokevirtual 225, 3) := by decide +kernel
theorem dX9_room_27 : decode cX9_room 27 = .ok (.pop, 1) := by decide +kernel
theorem dX9_room_28 : decode cX9_room 28 = .ok (.aload_n 0, 1) := by decide +kernel
theorem dX9_room_29 : decode cX9_room 29 = .ok (.getfield 64, 3) := by decide +kernel
theorem dX9_room_32 : decode cX9_room 32 = .ok (.getfield 213, 3) := by decide +kernel
theorem dX9_room_35 : decode cX9_room 35 = .ok (.iconst 2, 1) := by decide +kernel
theorem dX9_room_36 : decode cX9_room 36 = .ok (.iaload, 1) := by decide +kernel
theorem dX9_room_37 : decode cX9_room 37 = .ok (.aload_n 0, 1) := by decide +kernel
theorem dX9_room_38 : decode cX9_room 38 = .ok (.getfield 32, 3) := by decide +kernel
theorem dX9_room_41 : decode cX9_room 41 = .ok (.getfield 241, 3) := by decide +kernel
theorem dX9_room_44 : decode cX9_room 44 = .ok (.aload_n 0, 1) := by decide +kernel
theorem dX9_room_45 : decode cX9_room 45 = .ok (.getfield 19, 3) := by decide +kernel
theorem dX9_room_48 : decode cX9_room 48 = .ok (.getfield 216, 3) := by decide +kernel
theorem dX9_room_51 : decode cX9_room 51 = .ok (.isub, 1) := by decide +kernel
theorem dX9_room_52 : decode cX9_room 52 = .ok (.isub, 1) := by decide +kernel
theorem dX9_room_53 : decode cX9_room 53 = .ok (.istore_n 1, 1) := by decide +kernel
theorem dX9_room_54 : decode cX9_room 54 = .ok (.iload_n 1, 1) := by decide +kernel
theorem dX9_room_55 : decode cX9_room 55 = .ok (.ifCond .ge 7, 3) := by decide +kernel
theorem dX9_room_58 : decode cX9_room 58 = .ok (.iconst (-1), 1) := by decide +kernel
theorem dX9_room_59 : decode cX9_room 59 = .ok (.goto 9, 3) := by decide +kernel
theorem dX9_room_62 : decode cX9_room 62 = .ok (.bipush 99, 2) := by decide +kernel
theorem dX9_room_64 : decode cX9_room 64 = .ok (.iload_n 1, 1) := by decide +kernel
theorem dX9_room_65 : decode cX9_room 65 = .ok (.invokestatic 264, 3) := by decide +kernel
theorem dX9_room_68 : decode cX9_room 68 = .ok (.ireturn, 1) := by decide +kernel
theorem dX9_jump_0 : decode cX9_jump 0 = .ok (.aload_n 0, 1) := by decide +kernel
theorem dX9_jump_1 : decode cX9_jump 1 = .ok (.getfield 19, 3) := by decide +kernel
theorem dX9_jump_4 : decode cX9_jump 4 = .ok (.getfield 222, 3) := by decide +kernel
theorem dX9_jump_7 : decode cX9_jump 7 = .ok (.ifCond .eq 42, 3) := by decide +kernel
theorem dX9_jump_10 : decode cX9_jump 10 = .ok (.iload_n 1, 1) := by decide +kernel
theorem dX9_jump_11 : decode cX9_jump 11 = .ok (.ifCond .lt 38, 3) := by decide +kernel
theorem dX9_jump_14 : decode cX9_jump 14 = .ok (.iload_n 1, 1) := by decide +kernel
theorem dX9_jump_15 : decode cX9_jump 15 = .ok (.iconst 4, 1) := by decide +kernel
theorem dX9_jump_16 : decode cX9_jump 16 = .ok (.if_icmp .ge 33, 3) := by decide +kernel
theorem dX9_jump_19 : decode cX9_jump 19 = .ok (.iload_n 2, 1) := by decide +kernel
theorem dX9_jump_20 : decode cX9_jump 20 = .ok (.ifCond .lt 29, 3) := by decide +kernel
theorem dX9_jump_23 : decode cX9_jump 23 = .ok (.iload_n 2, 1) := by decide +kernel
theorem dX9_jump_24 : decode cX9_jump 24 = .ok (.aload_n 0, 1) := by decide +kernel
theorem dX9_jump_25 : decode cX9_jump 25 = .ok (.getfield 64, 3) := by decide +kernel
theorem dX9_jump_28 : decode cX9_jump 28 = .ok (.getfield 213, 3) := by decide +kernel
theorem dX9_jump_31 : decode cX9_jump 31 = .ok (.iconst 0, 1) := by decide +kernel
theorem dX9_jump_32 : decode cX9_jump 32 = .ok (.iaload, 1) := by decide +kernel
theorem dX9_jump_33 : decode cX9_jump 33 = .ok (.if_icmp .ge 16, 3) := by decide +kernel
theorem dX9_jump_36 : decode cX9_jump 36 = .ok (.aload_n 0, 1) := by decide +kernel
theorem dX9_jump_37 : decode cX9_jump 37 = .ok (.getfield 19, 3) := by decide +kernel
theorem dX9_jump_40 : decode cX9_jump 40 = .ok (.getfield 177, 3) := by decide +kernel
theorem dX9_jump_43 : decode cX9_jump 43 = .ok (.iload_n 1, 1) := by decide +kernel
theorem dX9_jump_44 : decode cX9_jump 44 = .ok (.iaload, 1) := by decide +kernel
theorem dX9_jump_45 : decode cX9_jump 45 = .ok (.iload_n 2, 1) := by decide +kernel
theorem dX9_jump_46 : decode cX9_jump 46 = .ok (.if_icmp .ne 5, 3) := by decide +kernel
theorem dX9_jump_49 : decode cX9_jump 49 = .ok (.iconst 0, 1) := by decide +kernel
theorem dX9_jump_50 : decode cX9_jump 50 = .ok (.ireturn, 1) := by decide +kernel
theorem dX9_jump_51 : decode cX9_jump 51 = .ok (.aload_n 0, 1) := by decide +kernel
theorem dX9_jump_52 : decode cX9_jump 52 = .ok (.invokevirtual 269, 3) := by decide +kernel
theorem dX9_jump_55 : decode cX9_jump 55 = .ok (.aload_n 0, 1) := by decide +kernel
theorem dX9_jump_56 : decode cX9_jump 56 = .ok (.getfield 19, 3) := by decide +kernel
theorem dX9_jump_59 : decode cX9_jump 59 = .ok (.getfield 177, 3) := by decide +kernel
theorem dX9_jump_62 : decode cX9_jump 62 = .ok (.iload_n 1, 1) := by decide +kernel
theorem dX9_jump_63 : decode cX9_jump 63 = .ok (.iload_n 2, 1) := by decide +kernel
theorem dX9_jump_64 : decode cX9_jump 64 = .ok (.iastore, 1) := by decide +kernel
theorem dX9_jump_65 : decode cX9_jump 65 = .ok (.iconst 1, 1) := by decide +kernel
theorem dX9_jump_66 : decode cX9_jump 66 = .ok (.ireturn, 1) := by decide +kernel
theorem dX9_high_0 : decode cX9_high 0 = .ok (.iload_n 1, 1) := by decide +kernel
theorem dX9_high_1 : decode cX9_high 1 = .ok (.ifCond .lt 37, 3) := by decide +kernel
theorem dX9_high_4 : decode cX9_high 4 = .ok (.iload_n 1, 1) := by decide +kernel
theorem dX9_high_5 : decode cX9_high 5 = .ok (.aload_n 0, 1) := by decide +kernel
theorem dX9_high_6 : decode cX9_high 6 = .ok (.getfield 64, 3) := by decide +kernel
theorem dX9_high_9 : decode cX9_high 9 = .ok (.getfield 180, 3) := by decide +kernel
theorem dX9_high_12 : decode cX9_high 12 = .ok (.if_icmp .ge 26, 3) := by decide +kernel
theorem dX9_high_15 : decode cX9_high 15 = .ok (.iload_n 2, 1) := by decide +kernel
theorem dX9_high_16 : decode cX9_high 16 = .ok (.ifCond .lt 22, 3) := by decide +kernel
theorem dX9_high_19 : decode cX9_high 19 = .ok (.iload_n 2, 1) := by decide +kernel
theorem dX9_high_20 : decode cX9_high 20 = .ok (.bipush 9, 2) := by decide +kernel
theorem dX9_high_22 : decode cX9_high 22 = .ok (.if_icmp .gt 16, 3) := by decide +kernel
theorem dX9_high_25 : decode cX9_high 25 = .ok (.aload_n 0, 1) := by decide +kernel
theorem dX9_high_26 : decode cX9_high 26 = .ok (.getfield 19, 3) := by decide +kernel
theorem dX9_high_29 : decode cX9_high 29 = .ok (.getfield 194, 3) := by decide +kernel
theorem dX9_high_32 : decode cX9_high 32 = .ok (.iload_n 1, 1) := by decide +kernel
theorem dX9_high_33 : decode cX9_high 33 = .ok (.iaload, 1) := by decide +kernel
theorem dX9_high_34 : decode cX9_high 34 = .ok (.iload_n 2, 1) := by decide +kernel
theorem dX9_high_35 : decode cX9_high 35 = .ok (.if_icmp .ne 5, 3) := by decide +kernel
theorem dX9_high_38 : decode cX9_high 38 = .ok (.iconst 0, 1) := by decide +kernel
theorem dX9_high_39 : decode cX9_high 39 = .ok (.ireturn, 1) := by decide +kernel
theorem dX9_high_40 : decode cX9_high 40 = .ok (.aload_n 0, 1) := by decide +kernel
theorem dX9_high_41 : decode cX9_high 41 = .ok (.invokevirtual 269, 3) := by decide +kernel
theorem dX9_high_44 : decode cX9_high 44 = .ok (.aload_n 0, 1) := by decide +kernel
theorem dX9_high_45 : decode cX9_high 45 = .ok (.getfield 19, 3) := by decide +kernel
theorem dX9_high_48 : decode cX9_high 48 = .ok (.getfield 194, 3) := by decide +kernel
theorem dX9_high_51 : decode cX9_high 51 = .ok (.iload_n 1, 1) := by decide +kernel
theorem dX9_high_52 : decode cX9_high 52 = .ok (.iload_n 2, 1) := by decide +kernel
theorem dX9_high_53 : decode cX9_high 53 = .ok (.iastore, 1) := by decide +kernel
theorem dX9_high_54 : decode cX9_high 54 = .ok (.iconst 1, 1) := by decide +kernel
theorem dX9_high_55 : decode cX9_high 55 = .ok (.ireturn, 1) := by decide +kernel
theorem dX9_set_0 : decode cX9_set 0 = .ok (.iload_n 1, 1) := by decide +kernel
theorem dX9_set_1 : decode cX9_set 1 = .ok (.tableswitch 45 0 2 #[27, 33, 39], 27) := by decide +kernel
theorem dX9_set_28 : decode cX9_set 28 = .ok (.aload_n 0, 1) := by decide +kernel
theorem dX9_set_29 : decode cX9_set 29 = .ok (.iload_n 2, 1) := by decide +kernel
theorem dX9_set_30 : decode cX9_set 30 = .ok (.invokevirtual 272, 3) := by decide +kernel
theorem dX9_set_33 : decode cX9_set 33 = .ok (.ireturn, 1) := by decide +kernel
theorem dX9_set_34 : decode cX9_set 34 = .ok (.aload_n 0, 1) := by decide +kernel
theorem dX9_set_35 : decode cX9_set 35 = .ok (.iload_n 2, 1) := by decide +kernel
theorem dX9_set_36 : decode cX9_set 36 = .ok (.invokevirtual 276, 3) := by decide +kernel
theorem dX9_set_39 : decode cX9_set 39 = .ok (.ireturn, 1) := by decide +kernel
theorem dX9_set_40 : decode cX9_set 40 = .ok (.aload_n 0, 1) := by decide +kernel
theorem dX9_set_41 : decode cX9_set 41 = .ok (.iload_n 2, 1) := by decide +kernel
theorem dX9_set_42 : decode cX9_set 42 = .ok (.invokevirtual 279, 3) := by decide +kernel
theorem dX9_set_45 : decode cX9_set 45 = .ok (.ireturn, 1) := by decide +kernel
theorem dX9_set_46 : decode cX9_set 46 = .ok (.iconst 0, 1) := by decide +kernel
theorem dX9_set_47 : decode cX9_set 47 = .ok (.ireturn, 1) := by decide +kernel
theorem dX9_changeLead_0 : decode cX9_changeLead 0 = .ok (.iload_n 1, 1) := by decide +kernel
theorem dX9_changeLead_1 : decode cX9_changeLead 1 = .ok (.ifCond .lt 20, 3) := by decide +kernel
theorem dX9_changeLead_4 : decode cX9_changeLead 4 = .ok (.iload_n 1, 1) := by decide +kernel
theorem dX9_changeLead_5 : decode cX9_changeLead 5 = .ok (.bipush 99, 2) := by decide +kernel
theorem dX9_changeLead_7 : decode cX9_changeLead 7 = .ok (.if_icmp .gt 14, 3) := by decide +kernel
theorem dX9_changeLead_10 : decode cX9_changeLead 10 = .ok (.iload_n 1, 1) := by decide +kernel
theorem dX9_changeLead_11 : decode cX9_changeLead 11 = .ok (.aload_n 0, 1) := by decide +kernel
theorem dX9_changeLead_12 : decode cX9_changeLead 12 = .ok (.getfield 19, 3) := by decide +kernel
theorem dX9_changeLead_15 : decode cX9_changeLead 15 = .ok (.getfield 216, 3) := by decide +kernel
theorem dX9_changeLead_18 : decode cX9_changeLead 18 = .ok (.if_icmp .ne 5, 3) := by decide +kernel
theorem dX9_changeLead_21 : decode cX9_changeLead 21 = .ok (.iconst 0, 1) := by decide +kernel
theorem dX9_changeLead_22 : decode cX9_changeLead 22 = .ok (.ireturn, 1) := by decide +kernel
theorem dX9_changeLead_23 : decode cX9_changeLead 23 = .ok (.aload_n 0, 1) := by decide +kernel
theorem dX9_changeLead_24 : decode cX9_changeLead 24 = .ok (.invokevirtual 269, 3) := by decide +kernel
theorem dX9_changeLead_27 : decode cX9_changeLead 27 = .ok (.aload_n 0, 1) := by decide +kernel
theorem dX9_changeLead_28 : decode cX9_changeLead 28 = .ok (.getfield 19, 3) := by decide +kernel
theorem dX9_changeLead_31 : decode cX9_changeLead 31 = .ok (.iload_n 1, 1) := by decide +kernel
theorem dX9_changeLead_32 : decode cX9_changeLead 32 = .ok (.putfield 216, 3) := by decide +kernel
theorem dX9_changeLead_35 : decode cX9_changeLead 35 = .ok (.iconst 1, 1) := by decide +kernel
theorem dX9_changeLead_36 : decode cX9_changeLead 36 = .ok (.ireturn, 1) := by decide +kernel
theorem dX9_changeRunner_0 : decode cX9_changeRunner 0 = .ok (.iload_n 1, 1) := by decide +kernel
theorem dX9_changeRunner_1 : decode cX9_changeRunner 1 = .ok (.ifCond .lt 25, 3) := by decide +kernel
theorem dX9_changeRunner_4 : decode cX9_changeRunner 4 = .ok (.iload_n 1, 1) := by decide +kernel
theorem dX9_changeRunner_5 : decode cX9_changeRunner 5 = .ok (.aload_n 0, 1) := by decide +kernel
theorem dX9_changeRunner_6 : decode cX9_changeRunner 6 = .ok (.getfield 64, 3) := by decide +kernel
theorem dX9_changeRunner_9 : decode cX9_changeRunner 9 = .ok (.getfield 197, 3) := by decide +kernel
theorem dX9_changeRunner_12 : decode cX9_changeRunner 12 = .ok (.if_icmp .ge 14, 3) := by decide +kernel
theorem dX9_changeRunner_15 : decode cX9_changeRunner 15 = .ok (.iload_n 1, 1) := by decide +kernel
theorem dX9_changeRunner_16 : decode cX9_changeRunner 16 = .ok (.aload_n 0, 1) := by decide +kernel
theorem dX9_changeRunner_17 : decode cX9_changeRunner 17 = .ok (.getfield 19, 3) := by decide +kernel
theorem dX9_changeRunner_20 : decode cX9_changeRunner 20 = .ok (.getfield 219, 3) := by decide +kernel
theorem dX9_changeRunner_23 : decode cX9_changeRunner 23 = .ok (.if_icmp .ne 5, 3) := by decide +kernel
theorem dX9_changeRunner_26 : decode cX9_changeRunner 26 = .ok (.iconst 0, 1) := by decide +kernel
theorem dX9_changeRunner_27 : decode cX9_changeRunner 27 = .ok (.ireturn, 1) := by decide +kernel
theorem dX9_changeRunner_28 : decode cX9_changeRunner 28 = .ok (.aload_n 0, 1) := by decide +kernel
theorem dX9_changeRunner_29 : decode cX9_changeRunner 29 = .ok (.invokevirtual 269, 3) := by decide +kernel
theorem dX9_changeRunner_32 : decode cX9_changeRunner 32 = .ok (.aload_n 0, 1) := by decide +kernel
theorem dX9_changeRunner_33 : decode cX9_changeRunner 33 = .ok (.getfield 19, 3) := by decide +kernel
theorem dX9_changeRunner_36 : decode cX9_changeRunner 36 = .ok (.iload_n 1, 1) := by decide +kernel
theorem dX9_changeRunner_37 : decode cX9_changeRunner 37 = .ok (.putfield 219, 3) := by decide +kernel
theorem dX9_changeRunner_40 : decode cX9_changeRunner 40 = .ok (.iconst 1, 1) := by decide +kernel
theorem dX9_changeRunner_41 : decode cX9_changeRunner 41 = .ok (.ireturn, 1) := by decide +kernel
theorem dX9_changeNumber_0 : decode cX9_changeNumber 0 = .ok (.iload_n 1, 1) := by decide +kernel
theorem dX9_changeNumber_1 : decode cX9_changeNumber 1 = .ok (.invokestatic 282, 3) := by decide +kernel
theorem dX9_changeNumber_4 : decode cX9_changeNumber 4 = .ok (.ifCond .eq 14, 3) := by decide +kernel
theorem dX9_changeNumber_7 : decode cX9_changeNumber 7 = .ok (.iload_n 1, 1) := by decide +kernel
theorem dX9_changeNumber_8 : decode cX9_changeNumber 8 = .ok (.aload_n 0, 1) := by decide +kernel
theorem dX9_changeNumber_9 : decode cX9_changeNumber 9 = .ok (.getfield 19, 3) := by decide +kernel
theorem dX9_changeNumber_12 : decode cX9_changeNumber 12 = .ok (.getfield 206, 3) := by decide +kernel
theorem dX9_changeNumber_15 : decode cX9_changeNumber 15 = .ok (.if_icmp .ne 5, 3) := by decide +kernel
theorem dX9_changeNumber_18 : decode cX9_changeNumber 18 = .ok (.iconst 0, 1) := by decide +kernel
theorem dX9_changeNumber_19 : decode cX9_changeNumber 19 = .ok (.ireturn, 1) := by decide +kernel
theorem dX9_changeNumber_20 : decode cX9_changeNumber 20 = .ok (.aload_n 0, 1) := by decide +kernel
theorem dX9_changeNumber_21 : decode cX9_changeNumber 21 = .ok (.invokevirtual 269, 3) := by decide +kernel
theorem dX9_changeNumber_24 : decode cX9_changeNumber 24 = .ok (.aload_n 0, 1) := by decide +kernel
theorem dX9_changeNumber_25 : decode cX9_changeNumber 25 = .ok (.getfield 19, 3) := by decide +kernel
theorem dX9_changeNumber_28 : decode cX9_changeNumber 28 = .ok (.iload_n 1, 1) := by decide +kernel
theorem dX9_changeNumber_29 : decode cX9_changeNumber 29 = .ok (.putfield 206, 3) := by decide +kernel
theorem dX9_changeNumber_32 : decode cX9_changeNumber 32 = .ok (.iconst 1, 1) := by decide +kernel
theorem dX9_changeNumber_33 : decode cX9_changeNumber 33 = .ok (.ireturn, 1) := by decide +kernel
theorem dX9_swap_0 : decode cX9_swap 0 = .ok (.aload_n 0, 1) := by decide +kernel
theorem dX9_swap_1 : decode cX9_swap 1 = .ok (.getfield 19, 3) := by decide +kernel
theorem dX9_swap_4 : decode cX9_swap 4 = .ok (.getfield 222, 3) := by decide +kernel
theorem dX9_swap_7 : decode cX9_swap 7 = .ok (.ifCond .eq 26, 3) := by decide +kernel
theorem dX9_swap_10 : decode cX9_swap 10 = .ok (.iload_n 1, 1) := by decide +kernel
theorem dX9_swap_11 : decode cX9_swap 11 = .ok (.ifCond .lt 22, 3) := by decide +kernel
theorem dX9_swap_14 : decode cX9_swap 14 = .ok (.iload_n 1, 1) := by decide +kernel
theorem dX9_swap_15 : decode cX9_swap 15 = .ok (.iconst 4, 1) := by decide +kernel
theorem dX9_swap_16 : decode cX9_swap 16 = .ok (.if_icmp .ge 17, 3) := by decide +kernel
theorem dX9_swap_19 : decode cX9_swap 19 = .ok (.iload_n 2, 1) := by decide +kernel
theorem dX9_swap_20 : decode cX9_swap 20 = .ok (.ifCond .lt 13, 3) := by decide +kernel
theorem dX9_swap_23 : decode cX9_swap 23 = .ok (.iload_n 2, 1) := by decide +kernel
theorem dX9_swap_24 : decode cX9_swap 24 = .ok (.iconst 4, 1) := by decide +kernel
theorem dX9_swap_25 : decode cX9_swap 25 = .ok (.if_icmp .ge 8, 3) := by decide +kernel
theorem dX9_swap_28 : decode cX9_swap 28 = .ok (.iload_n 1, 1) := by decide +kernel
theorem dX9_swap_29 : decode cX9_swap 29 = .ok (.iload_n 2, 1) := by decide +kernel
theorem dX9_swap_30 : decode cX9_swap 30 = .ok (.if_icmp .ne 5, 3) := by decide +kernel
theorem dX9_swap_33 : decode cX9_swap 33 = .ok (.iconst 0, 1) := by decide +kernel
theorem dX9_swap_34 : decode cX9_swap 34 = .ok (.ireturn, 1) := by decide +kernel
theorem dX9_swap_35 : decode cX9_swap 35 = .ok (.aload_n 0, 1) := by decide +kernel
theorem dX9_swap_36 : decode cX9_swap 36 = .ok (.invokevirtual 269, 3) := by decide +kernel
theorem dX9_swap_39 : decode cX9_swap 39 = .ok (.aload_n 0, 1) := by decide +kernel
theorem dX9_swap_40 : decode cX9_swap 40 = .ok (.getfield 19, 3) := by decide +kernel
theorem dX9_swap_43 : decode cX9_swap 43 = .ok (.getfield 285, 3) := by decide +kernel
theorem dX9_swap_46 : decode cX9_swap 46 = .ok (.iload_n 1, 1) := by decide +kernel
theorem dX9_swap_47 : decode cX9_swap 47 = .ok (.iaload, 1) := by decide +kernel
theorem dX9_swap_48 : decode cX9_swap 48 = .ok (.istore_n 3, 1) := by decide +kernel
theorem dX9_swap_49 : decode cX9_swap 49 = .ok (.aload_n 0, 1) := by decide +kernel
theorem dX9_swap_50 : decode cX9_swap 50 = .ok (.getfield 19, 3) := by decide +kernel
theorem dX9_swap_53 : decode cX9_swap 53 = .ok (.getfield 177, 3) := by decide +kernel
theorem dX9_swap_56 : decode cX9_swap 56 = .ok (.iload_n 1, 1) := by decide +kernel
theorem dX9_swap_57 : decode cX9_swap 57 = .ok (.iaload, 1) := by decide +kernel
theorem dX9_swap_58 : decode cX9_swap 58 = .ok (.istore 4, 2) := by decide +kernel
theorem dX9_swap_60 : decode cX9_swap 60 = .ok (.aload_n 0, 1) := by decide +kernel
theorem dX9_swap_61 : decode cX9_swap 61 = .ok (.getfield 19, 3) := by decide +kernel
theorem dX9_swap_64 : decode cX9_swap 64 = .ok (.getfield 285, 3) := by decide +kernel
theorem dX9_swap_67 : decode cX9_swap 67 = .ok (.iload_n 1, 1) := by decide +kernel
theorem dX9_swap_68 : decode cX9_swap 68 = .ok (.aload_n 0, 1) := by decide +kernel
theorem dX9_swap_69 : decode cX9_swap 69 = .ok (.getfield 19, 3) := by decide +kernel
theorem dX9_swap_72 : decode cX9_swap 72 = .ok (.getfield 285, 3) := by decide +kernel
theorem dX9_swap_75 : decode cX9_swap 75 = .ok (.iload_n 2, 1) := by decide +kernel
theorem dX9_swap_76 : decode cX9_swap 76 = .ok (.iaload, 1) := by decide +kernel
theorem dX9_swap_77 : decode cX9_swap 77 = .ok (.iastore, 1) := by decide +kernel
theorem dX9_swap_78 : decode cX9_swap 78 = .ok (.aload_n 0, 1) := by decide +kernel
theorem dX9_swap_79 : decode cX9_swap 79 = .ok (.getfield 19, 3) := by decide +kernel
theorem dX9_swap_82 : decode cX9_swap 82 = .ok (.getfield 177, 3) := by decide +kernel
theorem dX9_swap_85 : decode cX9_swap 85 = .ok (.iload_n 1, 1) := by decide +kernel
theorem dX9_swap_86 : decode cX9_swap 86 = .ok (.aload_n 0, 1) := by decide +kernel
theorem dX9_swap_87 : decode cX9_swap 87 = .ok (.getfield 19, 3) := by decide +kernel
theorem dX9_swap_90 : decode cX9_swap 90 = .ok (.getfield 177, 3) := by decide +kernel
theorem dX9_swap_93 : decode cX9_swap 93 = .ok (.iload_n 2, 1) := by decide +kernel
theorem dX9_swap_94 : decode cX9_swap 94 = .ok (.iaload, 1) := by decide +kernel
theorem dX9_swap_95 : decode cX9_swap 95 = .ok (.iastore, 1) := by decide +kernel
theorem dX9_swap_96 : decode cX9_swap 96 = .ok (.aload_n 0, 1) := by decide +kernel
theorem dX9_swap_97 : decode cX9_swap 97 = .ok (.getfield 19, 3) := by decide +kernel
theorem dX9_swap_100 : decode cX9_swap 100 = .ok (.getfield 285, 3) := by decide +kernel
theorem dX9_swap_103 : decode cX9_swap 103 = .ok (.iload_n 2, 1) := by decide +kernel
theorem dX9_swap_104 : decode cX9_swap 104 = .ok (.iload_n 3, 1) := by decide +kernel
theorem dX9_swap_105 : decode cX9_swap 105 = .ok (.iastore, 1) := by decide +kernel
theorem dX9_swap_106 : decode cX9_swap 106 = .ok (.aload_n 0, 1) := by decide +kernel
theorem dX9_swap_107 : decode cX9_swap 107 = .ok (.getfield 19, 3) := by decide +kernel
theorem dX9_swap_110 : decode cX9_swap 110 = .ok (.getfield 177, 3) := by decide +kernel
theorem dX9_swap_113 : decode cX9_swap 113 = .ok (.iload_n 2, 1) := by decide +kernel
theorem dX9_swap_114 : decode cX9_swap 114 = .ok (.iload 4, 2) := by decide +kernel
theorem dX9_swap_116 : decode cX9_swap 116 = .ok (.iastore, 1) := by decide +kernel
theorem dX9_swap_117 : decode cX9_swap 117 = .ok (.iconst 1, 1) := by decide +kernel
theorem dX9_swap_118 : decode cX9_swap 118 = .ok (.ireturn, 1) := by decide +kernel
theorem dX9_undo_0 : decode cX9_undo 0 = .ok (.aload_n 0, 1) := by decide +kernel
theorem dX9_undo_1 : decode cX9_undo 1 = .ok (.getfield 88, 3) := by decide +kernel
theorem dX9_undo_4 : decode cX9_undo 4 = .ok (.ifCond .ne 5, 3) := by decide +kernel
theorem dX9_undo_7 : decode cX9_undo 7 = .ok (.iconst (-1), 1) := by decide +kernel
theorem dX9_undo_8 : decode cX9_undo 8 = .ok (.ireturn, 1) := by decide +kernel
theorem dX9_undo_9 : decode cX9_undo 9 = .ok (.aload_n 0, 1) := by decide +kernel
theorem dX9_undo_10 : decode cX9_undo 10 = .ok (.aload_n 0, 1) := by decide +kernel
theorem dX9_undo_11 : decode cX9_undo 11 = .ok (.getfield 84, 3) := by decide +kernel
theorem dX9_undo_14 : decode cX9_undo 14 = .ok (.bipush 8, 2) := by decide +kernel
theorem dX9_undo_16 : decode cX9_undo 16 = .ok (.iadd, 1) := by decide +kernel
theorem dX9_undo_17 : decode cX9_undo 17 = .ok (.iconst 1, 1) := by decide +kernel
theorem dX9_undo_18 : decode cX9_undo 18 = .ok (.isub, 1) := by decide +kernel
theorem dX9_undo_19 : decode cX9_undo 19 = .ok (.bipush 8, 2) := by decide +kernel
theorem dX9_undo_21 : decode cX9_undo 21 = .ok (.irem, 1) := by decide +kernel
theorem dX9_undo_22 : decode cX9_undo 22 = .ok (.putfield 84, 3) := by decide +kernel
theorem dX9_undo_25 : decode cX9_undo 25 = .ok (.aload_n 0, 1) := by decide +kernel
theorem dX9_undo_26 : decode cX9_undo 26 = .ok (.dup, 1) := by decide +kernel
theorem dX9_undo_27 : decode cX9_undo 27 = .ok (.getfield 88, 3) := by decide +kernel
theorem dX9_undo_30 : decode cX9_undo 30 = .ok (.iconst 1, 1) := by decide +kernel
theorem dX9_undo_31 : decode cX9_undo 31 = .ok (.isub, 1) := by decide +kernel
theorem dX9_undo_32 : decode cX9_undo 32 = .ok (.putfield 88, 3) := by decide +kernel
theorem dX9_undo_35 : decode cX9_undo 35 = .ok (.aload_n 0, 1) := by decide +kernel
theorem dX9_undo_36 : decode cX9_undo 36 = .ok (.getfield 19, 3) := by decide +kernel
theorem dX9_undo_39 : decode cX9_undo 39 = .ok (.aload_n 0, 1) := by decide +kernel
theorem dX9_undo_40 : decode cX9_undo 40 = .ok (.getfield 39, 3) := by decide +kernel
theorem dX9_undo_43 : decode cX9_undo 43 = .ok (.aload_n 0, 1) := by decide +kernel
theorem dX9_undo_44 : decode cX9_undo 44 = .ok (.getfield 84, 3) := by decide +kernel
theorem dX9_undo_47 : decode cX9_undo 47 = .ok (.aaload, 1) := by decide +kernel
theorem dX9_undo_48 : decode cX9_undo 48 = .ok (.invokevirtual 132, 3) := by decide +kernel
theorem dX9_undo_51 : decode cX9_undo 51 = .ok (.aload_n 0, 1) := by decide +kernel
theorem dX9_undo_52 : decode cX9_undo 52 = .ok (.getfield 88, 3) := by decide +kernel
theorem dX9_undo_55 : decode cX9_undo 55 = .ok (.ireturn, 1) := by decide +kernel
theorem dX9_take_0 : decode cX9_take 0 = .ok (.iload_n 1, 1) := by decide +kernel
theorem dX9_take_1 : decode cX9_take 1 = .ok (.ifCond .ne 48, 3) := by decide +kernel
theorem dX9_take_4 : decode cX9_take 4 = .ok (.aload_n 0, 1) := by decide +kernel
theorem dX9_take_5 : decode cX9_take 5 = .ok (.getfield 56, 3) := by decide +kernel
theorem dX9_take_8 : decode cX9_take 8 = .ok (.aload_n 0, 1) := by decide +kernel
theorem dX9_take_9 : decode cX9_take 9 = .ok (.getfield 64, 3) := by decide +kernel
theorem dX9_take_12 : decode cX9_take 12 = .ok (.aload_n 0, 1) := by decide +kernel
theorem dX9_take_13 : decode cX9_take 13 = .ok (.getfield 19, 3) := by decide +kernel
theorem dX9_take_16 : decode cX9_take 16 = .ok (.invokevirtual 288, 3) := by decide +kernel
theorem dX9_take_19 : decode cX9_take 19 = .ok (.ifCond .eq 30, 3) := by decide +kernel
theorem dX9_take_22 : decode cX9_take 22 = .ok (.aload_n 0, 1) := by decide +kernel
theorem dX9_take_23 : decode cX9_take 23 = .ok (.invokevirtual 269, 3) := by decide +kernel
theorem dX9_take_26 : decode cX9_take 26 = .ok (.aload_n 0, 1) := by decide +kernel
theorem dX9_take_27 : decode cX9_take 27 = .ok (.getfield 56, 3) := by decide +kernel
theorem dX9_take_30 : decode cX9_take 30 = .ok (.getfield 292, 3) := by decide +kernel
theorem dX9_take_33 : decode cX9_take 33 = .ok (.iconst 0, 1) := by decide +kernel
theorem dX9_take_34 : decode cX9_take 34 = .ok (.aload_n 0, 1) := by decide +kernel
theorem dX9_take_35 : decode cX9_take 35 = .ok (.getfield 19, 3) := by decide +kernel
theorem dX9_take_38 : decode cX9_take 38 = .ok (.getfield 194, 3) := by decide +kernel
theorem dX9_take_41 : decode cX9_take 41 = .ok (.iconst 0, 1) := by decide +kernel
theorem dX9_take_42 : decode cX9_take 42 = .ok (.bipush 12, 2) := by decide +kernel
theorem dX9_take_44 : decode cX9_take 44 = .ok (.invokestatic 295, 3) := by decide +kernel
theorem dX9_take_47 : decode cX9_take 47 = .ok (.iconst 1, 1) := by decide +kernel
theorem dX9_take_48 : decode cX9_take 48 = .ok (.ireturn, 1) := by decide +kernel
theorem dX9_take_49 : decode cX9_take 49 = .ok (.iload_n 1, 1) := by decide +kernel
theorem dX9_take_50 : decode cX9_take 50 = .ok (.iconst 1, 1) := by decide +kernel
theorem dX9_take_51 : decode cX9_take 51 = .ok (.if_icmp .ne 47, 3) := by decide +kernel
theorem dX9_take_54 : decode cX9_take 54 = .ok (.aload_n 0, 1) := by decide +kernel
theorem dX9_take_55 : decode cX9_take 55 = .ok (.getfield 52, 3) := by decide +kernel
theorem dX9_take_58 : decode cX9_take 58 = .ok (.aload_n 0, 1) := by decide +kernel
theorem dX9_take_59 : decode cX9_take 59 = .ok (.getfield 64, 3) := by decide +kernel
theorem dX9_take_62 : decode cX9_take 62 = .ok (.aload_n 0, 1) := by decide +kernel
theorem dX9_take_63 : decode cX9_take 63 = .ok (.getfield 19, 3) := by decide +kernel
theorem dX9_take_66 : decode cX9_take 66 = .ok (.invokevirtual 288, 3) := by decide +kernel
theorem dX9_take_69 : decode cX9_take 69 = .ok (.ifCond .eq 29, 3) := by decide +kernel
theorem dX9_take_72 : decode cX9_take 72 = .ok (.aload_n 0, 1) := by decide +kernel
theorem dX9_take_73 : decode cX9_take 73 = .ok (.invokevirtual 269, 3) := by decide +kernel
theorem dX9_take_76 : decode cX9_take 76 = .ok (.aload_n 0, 1) := by decide +kernel
theorem dX9_take_77 : decode cX9_take 77 = .ok (.getfield 52, 3) := by decide +kernel
theorem dX9_take_80 : decode cX9_take 80 = .ok (.getfield 292, 3) := by decide +kernel
theorem dX9_take_83 : decode cX9_take 83 = .ok (.iconst 0, 1) := by decide +kernel
theorem dX9_take_84 : decode cX9_take 84 = .ok (.aload_n 0, 1) := by decide +kernel
theorem dX9_take_85 : decode cX9_take 85 = .ok (.getfield 19, 3) := by decide +kernel
theorem dX9_take_88 : decode cX9_take 88 = .ok (.getfield 177, 3) := by decide +kernel
theorem dX9_take_91 : decode cX9_take 91 = .ok (.iconst 0, 1) := by decide +kernel
theorem dX9_take_92 : decode cX9_take 92 = .ok (.iconst 4, 1) := by decide +kernel
theorem dX9_take_93 : decode cX9_take 93 = .ok (.invokestatic 295, 3) := by decide +kernel
theorem dX9_take_96 : decode cX9_take 96 = .ok (.iconst 1, 1) := by decide +kernel
theorem dX9_take_97 : decode cX9_take 97 = .ok (.ireturn, 1) := by decide +kernel
theorem dX9_take_98 : decode cX9_take 98 = .ok (.iconst 0, 1) := by decide +kernel
theorem dX9_take_99 : decode cX9_take 99 = .ok (.ireturn, 1) := by decide +kernel
theorem dX9_remember_0 : decode cX9_remember 0 = .ok (.aload_n 0, 1) := by decide +kernel
theorem dX9_remember_1 : decode cX9_remember 1 = .ok (.getfield 39, 3) := by decide +kernel
theorem dX9_remember_4 : decode cX9_remember 4 = .ok (.aload_n 0, 1) := by decide +kernel
theorem dX9_remember_5 : decode cX9_remember 5 = .ok (.getfield 84, 3) := by decide +kernel
theorem dX9_remember_8 : decode cX9_remember 8 = .ok (.aaload, 1) := by decide +kernel
theorem dX9_remember_9 : decode cX9_remember 9 = .ok (.aload_n 0, 1) := by decide +kernel
theorem dX9_remember_10 : decode cX9_remember 10 = .ok (.getfield 19, 3) := by decide +kernel
theorem dX9_remember_13 : decode cX9_remember 13 = .ok (.invokevirtual 132, 3) := by decide +kernel
theorem dX9_remember_16 : decode cX9_remember 16 = .ok (.aload_n 0, 1) := by decide +kernel
theorem dX9_remember_17 : decode cX9_remember 17 = .ok (.aload_n 0, 1) := by decide +kernel
theorem dX9_remember_18 : decode cX9_remember 18 = .ok (.getfield 84, 3) := by decide +kernel
theorem dX9_remember_21 : decode cX9_remember 21 = .ok (.iconst 1, 1) := by decide +kernel
theorem dX9_remember_22 : decode cX9_remember 22 = .ok (.iadd, 1) := by decide +kernel
theorem dX9_remember_23 : decode cX9_remember 23 = .ok (.bipush 8, 2) := by decide +kernel
theorem dX9_remember_25 : decode cX9_remember 25 = .ok (.irem, 1) := by decide +kernel
theorem dX9_remember_26 : decode cX9_remember 26 = .ok (.putfield 84, 3) := by decide +kernel
theorem dX9_remember_29 : decode cX9_remember 29 = .ok (.aload_n 0, 1) := by decide +kernel
theorem dX9_remember_30 : decode cX9_remember 30 = .ok (.bipush 8, 2) := by decide +kernel
theorem dX9_remember_32 : decode cX9_remember 32 = .ok (.aload_n 0, 1) := by decide +kernel
theorem dX9_remember_33 : decode cX9_remember 33 = .ok (.getfield 88, 3) := by decide +kernel
theorem dX9_remember_36 : decode cX9_remember 36 = .ok (.iconst 1, 1) := by decide +kernel
theorem dX9_remember_37 : decode cX9_remember 37 = .ok (.iadd, 1) := by decide +kernel
theorem dX9_remember_38 : decode cX9_remember 38 = .ok (.invokestatic 264, 3) := by decide +kernel
theorem dX9_remember_41 : decode cX9_remember 41 = .ok (.putfield 88, 3) := by decide +kernel
theorem dX9_remember_44 : decode cX9_remember 44 = .ok (.return_, 1) := by decide +kernel
theorem dX9_forgetPast_0 : decode cX9_forgetPast 0 = .ok (.aload_n 0, 1) := by decide +kernel
theorem dX9_forgetPast_1 : decode cX9_forgetPast 1 = .ok (.iconst 0, 1) := by decide +kernel
theorem dX9_forgetPast_2 : decode cX9_forgetPast 2 = .ok (.putfield 88, 3) := by decide +kernel
theorem dX9_forgetPast_5 : decode cX9_forgetPast 5 = .ok (.return_, 1) := by decide +kernel
theorem dX9_best_0 : decode cX9_best 0 = .ok (.aload_n 0, 1) := by decide +kernel
theorem dX9_best_1 : decode cX9_best 1 = .ok (.getfield 19, 3) := by decide +kernel
theorem dX9_best_4 : decode cX9_best 4 = .ok (.getfield 222, 3) := by decide +kernel
theorem dX9_best_7 : decode cX9_best 7 = .ok (.ifCond .ne 5, 3) := by decide +kernel
theorem dX9_best_10 : decode cX9_best 10 = .ok (.iconst (-1), 1) := by decide +kernel
theorem dX9_best_11 : decode cX9_best 11 = .ok (.ireturn, 1) := by decide +kernel
theorem dX9_best_12 : decode cX9_best 12 = .ok (.aload_n 0, 1) := by decide +kernel
theorem dX9_best_13 : decode cX9_best 13 = .ok (.invokevirtual 301, 3) := by decide +kernel
theorem dX9_best_16 : decode cX9_best 16 = .ok (.astore_n 1, 1) := by decide +kernel
theorem dX9_best_17 : decode cX9_best 17 = .ok (.aload_n 1, 1) := by decide +kernel
theorem dX9_best_18 : decode cX9_best 18 = .ok (.aload_n 0, 1) := by decide +kernel
theorem dX9_best_19 : decode cX9_best 19 = .ok (.getfield 64, 3) := by decide +kernel
theorem dX9_best_22 : decode cX9_best 22 = .ok (.aload_n 0, 1) := by decide +kernel
theorem dX9_best_23 : decode cX9_best 23 = .ok (.getfield 19, 3) := by decide +kernel
theorem dX9_best_26 : decode cX9_best 26 = .ok (.aload_n 0, 1) := by decide +kernel
theorem dX9_best_27 : decode cX9_best 27 = .ok (.getfield 32, 3) := by decide +kernel
theorem dX9_best_30 : decode cX9_best 30 = .ok (.invokevirtual 305, 3) := by decide +kernel
theorem dX9_best_33 : decode cX9_best 33 = .ok (.istore_n 2, 1) := by decide +kernel
theorem dX9_best_34 : decode cX9_best 34 = .ok (.iload_n 2, 1) := by decide +kernel
theorem dX9_best_35 : decode cX9_best 35 = .ok (.iconst (-1), 1) := by decide +kernel
theorem dX9_best_36 : decode cX9_best 36 = .ok (.if_icmp .eq 23, 3) := by decide +kernel
theorem dX9_best_39 : decode cX9_best 39 = .ok (.aload_n 0, 1) := by decide +kernel
theorem dX9_best_40 : decode cX9_best 40 = .ok (.getfield 52, 3) := by decide +kernel
theorem dX9_best_43 : decode cX9_best 43 = .ok (.aload_n 0, 1) := by decide +kernel
theorem dX9_best_44 : decode cX9_best 44 = .ok (.getfield 64, 3) := by decide +kernel
theorem dX9_best_47 : decode cX9_best 47 = .ok (.aload_n 0, 1) := by decide +kernel
theorem dX9_best_48 : decode cX9_best 48 = .ok (.getfield 19, 3) := by decide +kernel
theorem dX9_best_51 : decode cX9_best 51 = .ok (.aload_n 1, 1) := by decide +kernel
theorem dX9_best_52 : decode cX9_best 52 = .ok (.getfield 311, 3) := by decide +kernel
theorem dX9_best_55 : decode cX9_best 55 = .ok (.iconst 4, 1) := by decide +kernel
theorem dX9_best_56 : decode cX9_best 56 = .ok (.invokevirtual 314, 3) := by decide +kernel
theorem dX9_best_59 : decode cX9_best 59 = .ok (.iload_n 2, 1) := by decide +kernel
theorem dX9_best_60 : decode cX9_best 60 = .ok (.ireturn, 1) := by decide +kernel
theorem dX9_when_0 : decode cX9_when 0 = .ok (.aload_n 0, 1) := by decide +kernel
theorem dX9_when_1 : decode cX9_when 1 = .ok (.getfield 52, 3) := by decide +kernel
theorem dX9_when_4 : decode cX9_when 4 = .ok (.iload_n 1, 1) := by decide +kernel
theorem dX9_when_5 : decode cX9_when 5 = .ok (.invokevirtual 318, 3) := by decide +kernel
theorem dX9_when_8 : decode cX9_when 8 = .ok (.ireturn, 1) := by decide +kernel
theorem dX9_line_0 : decode cX9_line 0 = .ok (.aload_n 0, 1) := by decide +kernel
theorem dX9_line_1 : decode cX9_line 1 = .ok (.getfield 19, 3) := by decide +kernel
theorem dX9_line_4 : decode cX9_line 4 = .ok (.getfield 222, 3) := by decide +kernel
theorem dX9_line_7 : decode cX9_line 7 = .ok (.ifCond .ne 5, 3) := by decide +kernel
theorem dX9_line_10 : decode cX9_line 10 = .ok (.iconst (-1), 1) := by decide +kernel
theorem dX9_line_11 : decode cX9_line 11 = .ok (.ireturn, 1) := by decide +kernel
theorem dX9_line_12 : decode cX9_line 12 = .ok (.aload_n 0, 1) := by decide +kernel
theorem dX9_line_13 : decode cX9_line 13 = .ok (.getfield 32, 3) := by decide +kernel
theorem dX9_line_16 : decode cX9_line 16 = .ok (.aload_n 0, 1) := by decide +kernel
theorem dX9_line_17 : decode cX9_line 17 = .ok (.getfield 64, 3) := by decide +kernel
theorem dX9_line_20 : decode cX9_line 20 = .ok (.aload_n 0, 1) := by decide +kernel
theorem dX9_line_21 : decode cX9_line 21 = .ok (.getfield 19, 3) := by decide +kernel
theorem dX9_line_24 : decode cX9_line 24 = .ok (.invokevirtual 225, 3) := by decide +kernel
theorem dX9_line_27 : decode cX9_line 27 = .ok (.pop, 1) := by decide +kernel
theorem dX9_line_28 : decode cX9_line 28 = .ok (.aload_n 0, 1) := by decide +kernel
theorem dX9_line_29 : decode cX9_line 29 = .ok (.getfield 32, 3) := by decide +kernel
theorem dX9_line_32 : decode cX9_line 32 = .ok (.getfield 241, 3) := by decide +kernel
theorem dX9_line_35 : decode cX9_line 35 = .ok (.aload_n 0, 1) := by decide +kernel
theorem dX9_line_36 : decode cX9_line 36 = .ok (.getfield 64, 3) := by decide +kernel
theorem dX9_line_39 : decode cX9_line 39 = .ok (.getfield 213, 3) := by decide +kernel
theorem dX9_line_42 : decode cX9_line 42 = .ok (.iconst 2, 1) := by decide +kernel
theorem dX9_line_43 : decode cX9_line 43 = .ok (.iaload, 1) := by decide +kernel
theorem dX9_line_44 : decode cX9_line 44 = .ok (.if_icmp .le 5, 3) := by decide +kernel
theorem dX9_line_47 : decode cX9_line 47 = .ok (.iconst (-1), 1) := by decide +kernel
theorem dX9_line_48 : decode cX9_line 48 = .ok (.ireturn, 1) := by decide +kernel
theorem dX9_line_49 : decode cX9_line 49 = .ok (.aload_n 0, 1) := by decide +kernel
theorem dX9_line_50 : decode cX9_line 50 = .ok (.getfield 76, 3) := by decide +kernel
theorem dX9_line_53 : decode cX9_line 53 = .ok (.ifnonnull 14, 3) := by decide +kernel
theorem dX9_line_56 : decode cX9_line 56 = .ok (.aload_n 0, 1) := by decide +kernel
theorem dX9_line_57 : decode cX9_line 57 = .ok (.new 321, 3) := by decide +kernel
theorem dX9_line_60 : decode cX9_line 60 = .ok (.dup, 1) := by decide +kernel
theorem dX9_line_61 : decode cX9_line 61 = .ok (.invokespecial 323, 3) := by decide +kernel
theorem dX9_line_64 : decode cX9_line 64 = .ok (.putfield 76, 3) := by decide +kernel
theorem dX9_line_67 : decode cX9_line 67 = .ok (.aload_n 0, 1) := by decide +kernel
theorem dX9_line_68 : decode cX9_line 68 = .ok (.getfield 76, 3) := by decide +kernel
theorem dX9_line_71 : decode cX9_line 71 = .ok (.aload_n 0, 1) := by decide +kernel
theorem dX9_line_72 : decode cX9_line 72 = .ok (.getfield 64, 3) := by decide +kernel
theorem dX9_line_75 : decode cX9_line 75 = .ok (.aload_n 0, 1) := by decide +kernel
theorem dX9_line_76 : decode cX9_line 76 = .ok (.getfield 19, 3) := by decide +kernel
theorem dX9_line_79 : decode cX9_line 79 = .ok (.aload_n 0, 1) := by decide +kernel
theorem dX9_line_80 : decode cX9_line 80 = .ok (.getfield 32, 3) := by decide +kernel
theorem dX9_line_83 : decode cX9_line 83 = .ok (.getfield 232, 3) := by decide +kernel
theorem dX9_line_86 : decode cX9_line 86 = .ok (.aload_n 0, 1) := by decide +kernel
theorem dX9_line_87 : decode cX9_line 87 = .ok (.getfield 32, 3) := by decide +kernel
theorem dX9_line_90 : decode cX9_line 90 = .ok (.getfield 241, 3) := by decide +kernel
theorem dX9_line_93 : decode cX9_line 93 = .ok (.invokevirtual 324, 3) := by decide +kernel
theorem dX9_line_96 : decode cX9_line 96 = .ok (.istore_n 1, 1) := by decide +kernel
theorem dX9_line_97 : decode cX9_line 97 = .ok (.iload_n 1, 1) := by decide +kernel
theorem dX9_line_98 : decode cX9_line 98 = .ok (.iconst (-1), 1) := by decide +kernel
theorem dX9_line_99 : decode cX9_line 99 = .ok (.if_icmp .ne 5, 3) := by decide +kernel
theorem dX9_line_102 : decode cX9_line 102 = .ok (.iconst (-1), 1) := by decide +kernel
theorem dX9_line_103 : decode cX9_line 103 = .ok (.ireturn, 1) := by decide +kernel
theorem dX9_line_104 : decode cX9_line 104 = .ok (.aload_n 0, 1) := by decide +kernel
theorem dX9_line_105 : decode cX9_line 105 = .ok (.getfield 56, 3) := by decide +kernel
theorem dX9_line_108 : decode cX9_line 108 = .ok (.aload_n 0, 1) := by decide +kernel
theorem dX9_line_109 : decode cX9_line 109 = .ok (.getfield 64, 3) := by decide +kernel
theorem dX9_line_112 : decode cX9_line 112 = .ok (.aload_n 0, 1) := by decide +kernel
theorem dX9_line_113 : decode cX9_line 113 = .ok (.getfield 19, 3) := by decide +kernel
theorem dX9_line_116 : decode cX9_line 116 = .ok (.aload_n 0, 1) := by decide +kernel
theorem dX9_line_117 : decode cX9_line 117 = .ok (.getfield 76, 3) := by decide +kernel
theorem dX9_line_120 : decode cX9_line 120 = .ok (.getfield 327, 3) := by decide +kernel
theorem dX9_line_123 : decode cX9_line 123 = .ok (.aload_n 0, 1) := by decide +kernel
theorem dX9_line_124 : decode cX9_line 124 = .ok (.getfield 64, 3) := by decide +kernel
theorem dX9_line_127 : decode cX9_line 127 = .ok (.getfield 180, 3) := by decide +kernel
theorem dX9_line_130 : decode cX9_line 130 = .ok (.invokevirtual 314, 3) := by decide +kernel
theorem dX9_line_133 : decode cX9_line 133 = .ok (.aload_n 0, 1) := by decide +kernel
theorem dX9_line_134 : decode cX9_line 134 = .ok (.getfield 32, 3) := by decide +kernel
theorem dX9_line_137 : decode cX9_line 137 = .ok (.getfield 229, 3) := by decide +kernel
theorem dX9_line_140 : decode cX9_line 140 = .ok (.iload_n 1, 1) := by decide +kernel
theorem dX9_line_141 : decode cX9_line 141 = .ok (.iadd, 1) := by decide +kernel
theorem dX9_line_142 : decode cX9_line 142 = .ok (.ireturn, 1) := by decide +kernel
theorem dX9_height_0 : decode cX9_height 0 = .ok (.aload_n 0, 1) := by decide +kernel
theorem dX9_height_1 : decode cX9_height 1 = .ok (.getfield 56, 3) := by decide +kernel
theorem dX9_height_4 : decode cX9_height 4 = .ok (.iload_n 1, 1) := by decide +kernel
theorem dX9_height_5 : decode cX9_height 5 = .ok (.invokevirtual 318, 3) := by decide +kernel
theorem dX9_height_8 : decode cX9_height 8 = .ok (.ireturn, 1) := by decide +kernel
theorem dX9_four_0 : decode cX9_four 0 = .ok (.aload_n 0, 1) := by decide +kernel
theorem dX9_four_1 : decode cX9_four 1 = .ok (.getfield 64, 3) := by decide +kernel
theorem dX9_four_4 : decode cX9_four 4 = .ok (.getfield 153, 3) := by decide +kernel
theorem dX9_four_7 : decode cX9_four 7 = .ok (.iconst 4, 1) := by decide +kernel
theorem dX9_four_8 : decode cX9_four 8 = .ok (.if_icmp .lt 15, 3) := by decide +kernel
theorem dX9_four_11 : decode cX9_four 11 = .ok (.aload_n 0, 1) := by decide +kernel
theorem dX9_four_12 : decode cX9_four 12 = .ok (.getfield 64, 3) := by decide +kernel
theorem dX9_four_15 : decode cX9_four 15 = .ok (.getfield 153, 3) := by decide +kernel
theorem dX9_four_18 : decode cX9_four 18 = .ok (.bipush 6, 2) := by decide +kernel
theorem dX9_four_20 : decode cX9_four 20 = .ok (.if_icmp .le 5, 3) := by decide +kernel
theorem dX9_four_23 : decode cX9_four 23 = .ok (.iconst (-1), 1) := by decide +kernel
theorem dX9_four_24 : decode cX9_four 24 = .ok (.ireturn, 1) := by decide +kernel
theorem dX9_four_25 : decode cX9_four 25 = .ok (.aload_n 0, 1) := by decide +kernel
theorem dX9_four_26 : decode cX9_four 26 = .ok (.invokevirtual 301, 3) := by decide +kernel
theorem dX9_four_29 : decode cX9_four 29 = .ok (.astore_n 1, 1) := by decide +kernel
theorem dX9_four_30 : decode cX9_four 30 = .ok (.aload_n 0, 1) := by decide +kernel
theorem dX9_four_31 : decode cX9_four 31 = .ok (.getfield 26, 3) := by decide +kernel
theorem dX9_four_34 : decode cX9_four 34 = .ok (.aload_n 0, 1) := by decide +kernel
theorem dX9_four_35 : decode cX9_four 35 = .ok (.getfield 19, 3) := by decide +kernel
theorem dX9_four_38 : decode cX9_four 38 = .ok (.invokevirtual 132, 3) := by decide +kernel
theorem dX9_four_41 : decode cX9_four 41 = .ok (.iconst (-1), 1) := by decide +kernel
theorem dX9_four_42 : decode cX9_four 42 = .ok (.istore_n 2, 1) := by decide +kernel
theorem dX9_four_43 : decode cX9_four 43 = .ok (.iconst (-1), 1) := by decide +kernel
theorem dX9_four_44 : decode cX9_four 44 = .ok (.istore_n 3, 1) := by decide +kernel
theorem dX9_four_45 : decode cX9_four 45 = .ok (.iconst 0, 1) := by decide +kernel
theorem dX9_four_46 : decode cX9_four 46 = .ok (.istore 4, 2) := by decide +kernel
theorem dX9_four_48 : decode cX9_four 48 = .ok (.iload 4, 2) := by decide +kernel
theorem dX9_four_50 : decode cX9_four 50 = .ok (.aload_n 0, 1) := by decide +kernel
theorem dX9_four_51 : decode cX9_four 51 = .ok (.getfield 64, 3) := by decide +kernel
theorem dX9_four_54 : decode cX9_four 54 = .ok (.getfield 153, 3) := by decide +kernel
theorem dX9_four_57 : decode cX9_four 57 = .ok (.if_icmp .ge 154, 3) := by decide +kernel
theorem dX9_four_60 : decode cX9_four 60 = .ok (.iload 4, 2) := by decide +kernel
theorem dX9_four_62 : decode cX9_four 62 = .ok (.iconst 1, 1) := by decide +kernel
theorem dX9_four_63 : decode cX9_four 63 = .ok (.iadd, 1) := by decide +kernel
theorem dX9_four_64 : decode cX9_four 64 = .ok (.istore 5, 2) := by decide +kernel
theorem dX9_four_66 : decode cX9_four 66 = .ok (.iload 5, 2) := by decide +kernel
theorem dX9_four_68 : decode cX9_four 68 = .ok (.aload_n 0, 1) := by decide +kernel
theorem dX9_four_69 : decode cX9_four 69 = .ok (.getfield 64, 3) := by decide +kernel
theorem dX9_four_72 : decode cX9_four 72 = .ok (.getfield 153, 3) := by decide +kernel
theorem dX9_four_75 : decode cX9_four 75 = .ok (.if_icmp .ge 130, 3) := by decide +kernel
theorem dX9_four_78 : decode cX9_four 78 = .ok (.iload 5, 2) := by decide +kernel
theorem dX9_four_80 : decode cX9_four 80 = .ok (.iconst 1, 1) := by decide +kernel
theorem dX9_four_81 : decode cX9_four 81 = .ok (.iadd, 1) := by decide +kernel
theorem dX9_four_82 : decode cX9_four 82 = .ok (.istore 6, 2) := by decide +kernel
theorem dX9_four_84 : decode cX9_four 84 = .ok (.iload 6, 2) := by decide +kernel
theorem dX9_four_86 : decode cX9_four 86 = .ok (.aload_n 0, 1) := by decide +kernel
theorem dX9_four_87 : decode cX9_four 87 = .ok (.getfield 64, 3) := by decide +kernel
theorem dX9_four_90 : decode cX9_four 90 = .ok (.getfield 153, 3) := by decide +kernel
theorem dX9_four_93 : decode cX9_four 93 = .ok (.if_icmp .ge 106, 3) := by decide +kernel
theorem dX9_four_96 : decode cX9_four 96 = .ok (.iload 6, 2) := by decide +kernel
theorem dX9_four_98 : decode cX9_four 98 = .ok (.iconst 1, 1) := by decide +kernel
theorem dX9_four_99 : decode cX9_four 99 = .ok (.iadd, 1) := by decide +kernel
theorem dX9_four_100 : decode cX9_four 100 = .ok (.istore 7, 2) := by decide +kernel
theorem dX9_four_102 : decode cX9_four 102 = .ok (.iload 7, 2) := by decide +kernel
theorem dX9_four_104 : decode cX9_four 104 = .ok (.aload_n 0, 1) := by decide +kernel
theorem dX9_four_105 : decode cX9_four 105 = .ok (.getfield 64, 3) := by decide +kernel
theorem dX9_four_108 : decode cX9_four 108 = .ok (.getfield 153, 3) := by decide +kernel
theorem dX9_four_111 : decode cX9_four 111 = .ok (.if_icmp .ge 82, 3) := by decide +kernel
theorem dX9_four_114 : decode cX9_four 114 = .ok (.aload_n 0, 1) := by decide +kernel
theorem dX9_four_115 : decode cX9_four 115 = .ok (.getfield 26, 3) := by decide +kernel
theorem dX9_four_118 : decode cX9_four 118 = .ok (.iload 4, 2) := by decide +kernel
theorem dX9_four_120 : decode cX9_four 120 = .ok (.iload 5, 2) := by decide +kernel
theorem dX9_four_122 : decode cX9_four 122 = .ok (.iload 6, 2) := by decide +kernel
theorem dX9_four_124 : decode cX9_four 124 = .ok (.iload 7, 2) := by decide +kernel
theorem dX9_four_126 : decode cX9_four 126 = .ok (.invokevirtual 330, 3) := by decide +kernel
theorem dX9_four_129 : decode cX9_four 129 = .ok (.aload_n 1, 1) := by decide +kernel
theorem dX9_four_130 : decode cX9_four 130 = .ok (.aload_n 0, 1) := by decide +kernel
theorem dX9_four_131 : decode cX9_four 131 = .ok (.getfield 64, 3) := by decide +kernel
theorem dX9_four_134 : decode cX9_four 134 = .ok (.aload_n 0, 1) := by decide +kernel
theorem dX9_four_135 : decode cX9_four 135 = .ok (.getfield 26, 3) := by decide +kernel
theorem dX9_four_138 : decode cX9_four 138 = .ok (.aload_n 0, 1) := by decide +kernel
theorem dX9_four_139 : decode cX9_four 139 = .ok (.getfield 32, 3) := by decide +kernel
theorem dX9_four_142 : decode cX9_four 142 = .ok (.invokevirtual 305, 3) := by decide +kernel
theorem dX9_four_145 : decode cX9_four 145 = .ok (.istore 8, 2) := by decide +kernel
theorem dX9_four_147 : decode cX9_four 147 = .ok (.iload 8, 2) := by decide +kernel
theorem dX9_four_149 : decode cX9_four 149 = .ok (.iconst (-1), 1) := by decide +kernel
theorem dX9_four_150 : decode cX9_four 150 = .ok (.if_icmp .eq 37, 3) := by decide +kernel
theorem dX9_four_153 : decode cX9_four 153 = .ok (.iload_n 2, 1) := by decide +kernel
theorem dX9_four_154 : decode cX9_four 154 = .ok (.iconst (-1), 1) := by decide +kernel
theorem dX9_four_155 : decode cX9_four 155 = .ok (.if_icmp .eq 9, 3) := by decide +kernel
theorem dX9_four_158 : decode cX9_four 158 = .ok (.iload 8, 2) := by decide +kernel
theorem dX9_four_160 : decode cX9_four 160 = .ok (.iload_n 2, 1) := by decide +kernel
theorem dX9_four_161 : decode cX9_four 161 = .ok (.if_icmp .ge 26, 3) := by decide +kernel
theorem dX9_four_164 : decode cX9_four 164 = .ok (.iload 8, 2) := by decide +kernel
theorem dX9_four_166 : decode cX9_four 166 = .ok (.istore_n 2, 1) := by decide +kernel
theorem dX9_four_167 : decode cX9_four 167 = .ok (.iconst 1, 1) := by decide +kernel
theorem dX9_four_168 : decode cX9_four 168 = .ok (.iload 4, 2) := by decide +kernel
theorem dX9_four_170 : decode cX9_four 170 = .ok (.ishl, 1) := by decide +kernel
theorem dX9_four_171 : decode cX9_four 171 = .ok (.iconst 1, 1) := by decide +kernel
theorem dX9_four_172 : decode cX9_four 172 = .ok (.iload 5, 2) := by decide +kernel
theorem dX9_four_174 : decode cX9_four 174 = .ok (.ishl, 1) := by decide +kernel
theorem dX9_four_175 : decode cX9_four 175 = .ok (.ior, 1) := by decide +kernel
theorem dX9_four_176 : decode cX9_four 176 = .ok (.iconst 1, 1) := by decide +kernel
theorem dX9_four_177 : decode cX9_four 177 = .ok (.iload 6, 2) := by decide +kernel
theorem dX9_four_179 : decode cX9_four 179 = .ok (.ishl, 1) := by decide +kernel
theorem dX9_four_180 : decode cX9_four 180 = .ok (.ior, 1) := by decide +kernel
theorem dX9_four_181 : decode cX9_four 181 = .ok (.iconst 1, 1) := by decide +kernel
theorem dX9_four_182 : decode cX9_four 182 = .ok (.iload 7, 2) := by decide +kernel
theorem dX9_four_184 : decode cX9_four 184 = .ok (.ishl, 1) := by decide +kernel
theorem dX9_four_185 : decode cX9_four 185 = .ok (.ior, 1) := by decide +kernel
theorem dX9_four_186 : decode cX9_four 186 = .ok (.istore_n 3, 1) := by decide +kernel
theorem dX9_four_187 : decode cX9_four 187 = .ok (.iinc 7 1, 3) := by decide +kernel
theorem dX9_four_190 : decode cX9_four 190 = .ok (.goto (-88), 3) := by decide +kernel
theorem dX9_four_193 : decode cX9_four 193 = .ok (.iinc 6 1, 3) := by decide +kernel
theorem dX9_four_196 : decode cX9_four 196 = .ok (.goto (-112), 3) := by decide +kernel
theorem dX9_four_199 : decode cX9_four 199 = .ok (.iinc 5 1, 3) := by decide +kernel
theorem dX9_four_202 : decode cX9_four 202 = .ok (.goto (-136), 3) := by decide +kernel
theorem dX9_four_205 : decode cX9_four 205 = .ok (.iinc 4 1, 3) := by decide +kernel
theorem dX9_four_208 : decode cX9_four 208 = .ok (.goto (-160), 3) := by decide +kernel
theorem dX9_four_211 : decode cX9_four 211 = .ok (.iload_n 3, 1) := by decide +kernel
theorem dX9_four_212 : decode cX9_four 212 = .ok (.ireturn, 1) := by decide +kernel
theorem dX9_jumpSearcher_0 : decode cX9_jumpSearcher 0 = .ok (.aload_n 0, 1) := by decide +kernel
theorem dX9_jumpSearcher_1 : decode cX9_jumpSearcher 1 = .ok (.getfield 72, 3) := by decide +kernel
theorem dX9_jumpSearcher_4 : decode cX9_jumpSearcher 4 = .ok (.ifnonnull 14, 3) := by decide +kernel
theorem dX9_jumpSearcher_7 : decode cX9_jumpSearcher 7 = .ok (.aload_n 0, 1) := by decide +kernel
theorem dX9_jumpSearcher_8 : decode cX9_jumpSearcher 8 = .ok (.new 306, 3) := by decide +kernel
theorem dX9_jumpSearcher_11 : decode cX9_jumpSearcher 11 = .ok (.dup, 1) := by decide +kernel
theorem dX9_jumpSearcher_12 : decode cX9_jumpSearcher 12 = .ok (.invokespecial 334, 3) := by decide +kernel
theorem dX9_jumpSearcher_15 : decode cX9_jumpSearcher 15 = .ok (.putfield 72, 3) := by decide +kernel
theorem dX9_jumpSearcher_18 : decode cX9_jumpSearcher 18 = .ok (.aload_n 0, 1) := by decide +kernel
theorem dX9_jumpSearcher_19 : decode cX9_jumpSearcher 19 = .ok (.getfield 72, 3) := by decide +kernel
theorem dX9_jumpSearcher_22 : decode cX9_jumpSearcher 22 = .ok (.areturn, 1) := by decide +kernel
theorem dX9_kilo_0 : decode cX9_kilo 0 = .ok (.aload_n 0, 1) := by decide +kernel
theorem dX9_kilo_1 : decode cX9_kilo 1 = .ok (.getfield 19, 3) := by decide +kernel
theorem dX9_kilo_4 : decode cX9_kilo 4 = .ok (.getfield 222, 3) := by decide +kernel
theorem dX9_kilo_7 : decode cX9_kilo 7 = .ok (.ifCond .eq 28, 3) := by decide +kernel
theorem dX9_kilo_10 : decode cX9_kilo 10 = .ok (.iload_n 1, 1) := by decide +kernel
theorem dX9_kilo_11 : decode cX9_kilo 11 = .ok (.iconst 1, 1) := by decide +kernel
theorem dX9_kilo_12 : decode cX9_kilo 12 = .ok (.if_icmp .lt 23, 3) := by decide +kernel
theorem dX9_kilo_15 : decode cX9_kilo 15 = .ok (.iload_n 1, 1) := by decide +kernel
theorem dX9_kilo_16 : decode cX9_kilo 16 = .ok (.bipush 99, 2) := by decide +kernel
theorem dX9_kilo_18 : decode cX9_kilo 18 = .ok (.if_icmp .gt 17, 3) := by decide +kernel
theorem dX9_kilo_21 : decode cX9_kilo 21 = .ok (.aload_n 0, 1) := by decide +kernel
theorem dX9_kilo_22 : decode cX9_kilo 22 = .ok (.getfield 19, 3) := by decide +kernel
theorem dX9_kilo_25 : decode cX9_kilo 25 = .ok (.getfield 216, 3) := by decide +kernel
theorem dX9_kilo_28 : decode cX9_kilo 28 = .ok (.iload_n 1, 1) := by decide +kernel
theorem dX9_kilo_29 : decode cX9_kilo 29 = .ok (.iadd, 1) := by decide +kernel
theorem dX9_kilo_30 : decode cX9_kilo 30 = .ok (.bipush 99, 2) := by decide +kernel
theorem dX9_kilo_32 : decode cX9_kilo 32 = .ok (.if_icmp .le 7, 3) := by decide +kernel
theorem dX9_kilo_35 : decode cX9_kilo 35 = .ok (.ldc_w 335, 3) := by decide +kernel
theorem dX9_kilo_38 : decode cX9_kilo 38 = .ok (.ireturn, 1) := by decide +kernel
theorem dX9_kilo_39 : decode cX9_kilo 39 = .ok (.aload_n 0, 1) := by decide +kernel
theorem dX9_kilo_40 : decode cX9_kilo 40 = .ok (.getfield 26, 3) := by decide +kernel
theorem dX9_kilo_43 : decode cX9_kilo 43 = .ok (.aload_n 0, 1) := by decide +kernel
theorem dX9_kilo_44 : decode cX9_kilo 44 = .ok (.getfield 19, 3) := by decide +kernel
theorem dX9_kilo_47 : decode cX9_kilo 47 = .ok (.invokevirtual 132, 3) := by decide +kernel
theorem dX9_kilo_50 : decode cX9_kilo 50 = .ok (.aload_n 0, 1) := by decide +kernel
theorem dX9_kilo_51 : decode cX9_kilo 51 = .ok (.getfield 26, 3) := by decide +kernel
theorem dX9_kilo_54 : decode cX9_kilo 54 = .ok (.aload_n 0, 1) := by decide +kernel
theorem dX9_kilo_55 : decode cX9_kilo 55 = .ok (.getfield 19, 3) := by decide +kernel
theorem dX9_kilo_58 : decode cX9_kilo 58 = .ok (.getfield 216, 3) := by decide +kernel
theorem dX9_kilo_61 : decode cX9_kilo 61 = .ok (.iload_n 1, 1) := by decide +kernel
theorem dX9_kilo_62 : decode cX9_kilo 62 = .ok (.iadd, 1) := by decide +kernel
theorem dX9_kilo_63 : decode cX9_kilo 63 = .ok (.putfield 216, 3) := by decide +kernel
theorem dX9_kilo_66 : decode cX9_kilo 66 = .ok (.aload_n 0, 1) := by decide +kernel
theorem dX9_kilo_67 : decode cX9_kilo 67 = .ok (.getfield 36, 3) := by decide +kernel
theorem dX9_kilo_70 : decode cX9_kilo 70 = .ok (.aload_n 0, 1) := by decide +kernel
theorem dX9_kilo_71 : decode cX9_kilo 71 = .ok (.getfield 64, 3) := by decide +kernel
theorem dX9_kilo_74 : decode cX9_kilo 74 = .ok (.aload_n 0, 1) := by decide +kernel
theorem dX9_kilo_75 : decode cX9_kilo 75 = .ok (.getfield 26, 3) := by decide +kernel
theorem dX9_kilo_78 : decode cX9_kilo 78 = .ok (.invokevirtual 225, 3) := by decide +kernel
theorem dX9_kilo_81 : decode cX9_kilo 81 = .ok (.aload_n 0, 1) := by decide +kernel
theorem dX9_kilo_82 : decode cX9_kilo 82 = .ok (.getfield 32, 3) := by decide +kernel
theorem dX9_kilo_85 : decode cX9_kilo 85 = .ok (.aload_n 0, 1) := by decide +kernel
theorem dX9_kilo_86 : decode cX9_kilo 86 = .ok (.getfield 64, 3) := by decide +kernel
theorem dX9_kilo_89 : decode cX9_kilo 89 = .ok (.aload_n 0, 1) := by decide +kernel
theorem dX9_kilo_90 : decode cX9_kilo 90 = .ok (.getfield 19, 3) := by decide +kernel
theorem dX9_kilo_93 : decode cX9_kilo 93 = .ok (.invokevirtual 225, 3) := by decide +kernel
theorem dX9_kilo_96 : decode cX9_kilo 96 = .ok (.invokestatic 336, 3) := by decide +kernel
theorem dX9_kilo_99 : decode cX9_kilo 99 = .ok (.ireturn, 1) := by decide +kernel
theorem dX9_runners_0 : decode cX9_runners 0 = .ok (.aload_n 0, 1) := by decide +kernel
theorem dX9_runners_1 : decode cX9_runners 1 = .ok (.getfield 19, 3) := by decide +kernel
theorem dX9_runners_4 : decode cX9_runners 4 = .ok (.getfield 222, 3) := by decide +kernel
theorem dX9_runners_7 : decode cX9_runners 7 = .ok (.ifCond .ne 5, 3) := by decide +kernel
theorem dX9_runners_10 : decode cX9_runners 10 = .ok (.iconst (-1), 1) := by decide +kernel
theorem dX9_runners_11 : decode cX9_runners 11 = .ok (.ireturn, 1) := by decide +kernel
theorem dX9_runners_12 : decode cX9_runners 12 = .ok (.aload_n 0, 1) := by decide +kernel
theorem dX9_runners_13 : decode cX9_runners 13 = .ok (.getfield 26, 3) := by decide +kernel
theorem dX9_runners_16 : decode cX9_runners 16 = .ok (.aload_n 0, 1) := by decide +kernel
theorem dX9_runners_17 : decode cX9_runners 17 = .ok (.getfield 19, 3) := by decide +kernel
theorem dX9_runners_20 : decode cX9_runners 20 = .ok (.invokevirtual 132, 3) := by decide +kernel
theorem dX9_runners_23 : decode cX9_runners 23 = .ok (.iconst (-1), 1) := by decide +kernel
theorem dX9_runners_24 : decode cX9_runners 24 = .ok (.istore_n 1, 1) := by decide +kernel
theorem dX9_runners_25 : decode cX9_runners 25 = .ok (.iconst (-1), 1) := by decide +kernel
theorem dX9_runners_26 : decode cX9_runners 26 = .ok (.istore_n 2, 1) := by decide +kernel
theorem dX9_runners_27 : decode cX9_runners 27 = .ok (.iconst 0, 1) := by decide +kernel
theorem dX9_runners_28 : decode cX9_runners 28 = .ok (.istore_n 3, 1) := by decide +kernel
theorem dX9_runners_29 : decode cX9_runners 29 = .ok (.iload_n 3, 1) := by decide +kernel
theorem dX9_runners_30 : decode cX9_runners 30 = .ok (.aload_n 0, 1) := by decide +kernel
theorem dX9_runners_31 : decode cX9_runners 31 = .ok (.getfield 64, 3) := by decide +kernel
theorem dX9_runners_34 : decode cX9_runners 34 = .ok (.getfield 197, 3) := by decide +kernel
theorem dX9_runners_37 : decode cX9_runners 37 = .ok (.if_icmp .ge 56, 3) := by decide +kernel
theorem dX9_runners_40 : decode cX9_runners 40 = .ok (.aload_n 0, 1) := by decide +kernel
theorem dX9_runners_41 : decode cX9_runners 41 = .ok (.getfield 26, 3) := by decide +kernel
theorem dX9_runners_44 : decode cX9_runners 44 = .ok (.iload_n 3, 1) := by decide +kernel
theorem dX9_runners_45 : decode cX9_runners 45 = .ok (.putfield 219, 3) := by decide +kernel
theorem dX9_runners_48 : decode cX9_runners 48 = .ok (.aload_n 0, 1) := by decide +kernel
theorem dX9_runners_49 : decode cX9_runners 49 = .ok (.getfield 32, 3) := by decide +kernel
theorem dX9_runners_52 : decode cX9_runners 52 = .ok (.aload_n 0, 1) := by decide +kernel
theorem dX9_runners_53 : decode cX9_runners 53 = .ok (.getfield 64, 3) := by decide +kernel
theorem dX9_runners_56 : decode cX9_runners 56 = .ok (.aload_n 0, 1) := by decide +kernel
theorem dX9_runners_57 : decode cX9_runners 57 = .ok (.getfield 26, 3) := by decide +kernel
theorem dX9_runners_60 : decode cX9_runners 60 = .ok (.invokevirtual 225, 3) := by decide +kernel
theorem dX9_runners_63 : decode cX9_runners 63 = .ok (.istore 4, 2) := by decide +kernel
theorem dX9_runners_65 : decode cX9_runners 65 = .ok (.iload 4, 2) := by decide +kernel
theorem dX9_runners_67 : decode cX9_runners 67 = .ok (.iconst (-1), 1) := by decide +kernel
theorem dX9_runners_68 : decode cX9_runners 68 = .ok (.if_icmp .eq 19, 3) := by decide +kernel
theorem dX9_runners_71 : decode cX9_runners 71 = .ok (.iload_n 1, 1) := by decide +kernel
theorem dX9_runners_72 : decode cX9_runners 72 = .ok (.iconst (-1), 1) := by decide +kernel
theorem dX9_runners_73 : decode cX9_runners 73 = .ok (.if_icmp .eq 9, 3) := by decide +kernel
theorem dX9_runners_76 : decode cX9_runners 76 = .ok (.iload 4, 2) := by decide +kernel
theorem dX9_runners_78 : decode cX9_runners 78 = .ok (.iload_n 1, 1) := by decide +kernel
theorem dX9_runners_79 : decode cX9_runners 79 = .ok (.if_icmp .ge 8, 3) := by decide +kernel
theorem dX9_runners_82 : decode cX9_runners 82 = .ok (.iload 4, 2) := by decide +kernel
theorem dX9_runners_84 : decode cX9_runners 84 = .ok (.istore_n 1, 1) := by decide +kernel
theorem dX9_runners_85 : decode cX9_runners 85 = .ok (.iload_n 3, 1) := by decide +kernel
theorem dX9_runners_86 : decode cX9_runners 86 = .ok (.istore_n 2, 1) := by decide +kernel
theorem dX9_runners_87 : decode cX9_runners 87 = .ok (.iinc 3 1, 3) := by decide +kernel
theorem dX9_runners_90 : decode cX9_runners 90 = .ok (.goto (-61), 3) := by decide +kernel
theorem dX9_runners_93 : decode cX9_runners 93 = .ok (.iload_n 2, 1) := by decide +kernel
theorem dX9_runners_94 : decode cX9_runners 94 = .ok (.ireturn, 1) := by decide +kernel
theorem dX9_runs_0 : decode cX9_runs 0 = .ok (.aload_n 0, 1) := by decide +kernel
theorem dX9_runs_1 : decode cX9_runs 1 = .ok (.getfield 12, 3) := by decide +kernel
theorem dX9_runs_4 : decode cX9_runs 4 = .ok (.getfield 109, 3) := by decide +kernel
theorem dX9_runs_7 : decode cX9_runs 7 = .ok (.istore_n 1, 1) := by decide +kernel
theorem dX9_runs_8 : decode cX9_runs 8 = .ok (.aload_n 0, 1) := by decide +kernel
theorem dX9_runs_9 : decode cX9_runs 9 = .ok (.getfield 12, 3) := by decide +kernel
theorem dX9_runs_12 : decode cX9_runs 12 = .ok (.iconst 0, 1) := by decide +kernel
theorem dX9_runs_13 : decode cX9_runs 13 = .ok (.putfield 109, 3) := by decide +kernel
theorem dX9_runs_16 : decode cX9_runs 16 = .ok (.aload_n 0, 1) := by decide +kernel
theorem dX9_runs_17 : decode cX9_runs 17 = .ok (.getfield 19, 3) := by decide +kernel
theorem dX9_runs_20 : decode cX9_runs 20 = .ok (.getfield 222, 3) := by decide +kernel
theorem dX9_runs_23 : decode cX9_runs 23 = .ok (.ifCond .eq 8, 3) := by decide +kernel
theorem dX9_runs_26 : decode cX9_runs 26 = .ok (.iload_n 1, 1) := by decide +kernel
theorem dX9_runs_27 : decode cX9_runs 27 = .ok (.iconst 4, 1) := by decide +kernel
theorem dX9_runs_28 : decode cX9_runs 28 = .ok (.if_icmp .eq 5, 3) := by decide +kernel
theorem dX9_runs_31 : decode cX9_runs 31 = .ok (.iconst (-1), 1) := by decide +kernel
theorem dX9_runs_32 : decode cX9_runs 32 = .ok (.ireturn, 1) := by decide +kernel
theorem dX9_runs_33 : decode cX9_runs 33 = .ok (.iconst 0, 1) := by decide +kernel
theorem dX9_runs_34 : decode cX9_runs 34 = .ok (.istore_n 2, 1) := by decide +kernel
theorem dX9_runs_35 : decode cX9_runs 35 = .ok (.iconst 0, 1) := by decide +kernel
theorem dX9_runs_36 : decode cX9_runs 36 = .ok (.istore_n 3, 1) := by decide +kernel
theorem dX9_runs_37 : decode cX9_runs 37 = .ok (.iload_n 3, 1) := by decide +kernel
theorem dX9_runs_38 : decode cX9_runs 38 = .ok (.iconst 4, 1) := by decide +kernel
theorem dX9_runs_39 : decode cX9_runs 39 = .ok (.if_icmp .ge 52, 3) := by decide +kernel
theorem dX9_runs_42 : decode cX9_runs 42 = .ok (.aload_n 0, 1) := by decide +kernel
theorem dX9_runs_43 : decode cX9_runs 43 = .ok (.getfield 12, 3) := by decide +kernel
theorem dX9_runs_46 : decode cX9_runs 46 = .ok (.iload_n 3, 1) := by decide +kernel
theorem dX9_runs_47 : decode cX9_runs 47 = .ok (.invokevirtual 339, 3) := by decide +kernel
theorem dX9_runs_50 : decode cX9_runs 50 = .ok (.istore 4, 2) := by decide +kernel
theorem dX9_runs_52 : decode cX9_runs 52 = .ok (.iload 4, 2) := by decide +kernel
theorem dX9_runs_54 : decode cX9_runs 54 = .ok (.invokestatic 282, 3) := by decide +kernel
theorem dX9_runs_57 : decode cX9_runs 57 = .ok (.ifCond .eq 12, 3) := by decide +kernel
theorem dX9_runs_60 : decode cX9_runs 60 = .ok (.aload_n 0, 1) := by decide +kernel
theorem dX9_runs_61 : decode cX9_runs 61 = .ok (.iload 4, 2) := by decide +kernel
theorem dX9_runs_63 : decode cX9_runs 63 = .ok (.invokevirtual 342, 3) := by decide +kernel
theorem dX9_runs_66 : decode cX9_runs 66 = .ok (.goto 4, 3) := by decide +kernel
theorem dX9_runs_69 : decode cX9_runs 69 = .ok (.iconst (-1), 1) := by decide +kernel
theorem dX9_runs_70 : decode cX9_runs 70 = .ok (.istore 5, 2) := by decide +kernel
theorem dX9_runs_72 : decode cX9_runs 72 = .ok (.iload 5, 2) := by decide +kernel
theorem dX9_runs_74 : decode cX9_runs 74 = .ok (.iconst (-1), 1) := by decide +kernel
theorem dX9_runs_75 : decode cX9_runs 75 = .ok (.if_icmp .ne 5, 3) := by decide +kernel
theorem dX9_runs_78 : decode cX9_runs 78 = .ok (.iconst (-1), 1) := by decide +kernel
theorem dX9_runs_79 : decode cX9_runs 79 = .ok (.ireturn, 1) := by decide +kernel
theorem dX9_runs_80 : decode cX9_runs 80 = .ok (.iload_n 2, 1) := by decide +kernel
theorem dX9_runs_81 : decode cX9_runs 81 = .ok (.iload 5, 2) := by decide +kernel
theorem dX9_runs_83 : decode cX9_runs 83 = .ok (.iadd, 1) := by decide +kernel
theorem dX9_runs_84 : decode cX9_runs 84 = .ok (.istore_n 2, 1) := by decide +kernel
theorem dX9_runs_85 : decode cX9_runs 85 = .ok (.iinc 3 1, 3) := by decide +kernel
theorem dX9_runs_88 : decode cX9_runs 88 = .ok (.goto (-51), 3) := by decide +kernel
theorem dX9_runs_91 : decode cX9_runs 91 = .ok (.iload_n 2, 1) := by decide +kernel
theorem dX9_runs_92 : decode cX9_runs 92 = .ok (.ireturn, 1) := by decide +kernel
theorem dX9_worth_0 : decode cX9_worth 0 = .ok (.aload_n 0, 1) := by decide +kernel
theorem dX9_worth_1 : decode cX9_worth 1 = .ok (.getfield 19, 3) := by decide +kernel
theorem dX9_worth_4 : decode cX9_worth 4 = .ok (.getfield 222, 3) := by decide +kernel
theorem dX9_worth_7 : decode cX9_worth 7 = .ok (.ifCond .eq 17, 3) := by decide +kernel
theorem dX9_worth_10 : decode cX9_worth 10 = .ok (.iload_n 1, 1) := by decide +kernel
theorem dX9_worth_11 : decode cX9_worth 11 = .ok (.invokestatic 282, 3) := by decide +kernel
theorem dX9_worth_14 : decode cX9_worth 14 = .ok (.ifCond .eq 10, 3) := by decide +kernel
theorem dX9_worth_17 : decode cX9_worth 17 = .ok (.iload_n 2, 1) := by decide +kernel
theorem dX9_worth_18 : decode cX9_worth 18 = .ok (.invokestatic 282, 3) := by decide +kernel
theorem dX9_worth_21 : decode cX9_worth 21 = .ok (.ifCond .ne 7, 3) := by decide +kernel
theorem dX9_worth_24 : decode cX9_worth 24 = .ok (.ldc_w 335, 3) := by decide +kernel
theorem dX9_worth_27 : decode cX9_worth 27 = .ok (.ireturn, 1) := by decide +kernel
theorem dX9_worth_28 : decode cX9_worth 28 = .ok (.aload_n 0, 1) := by decide +kernel
theorem dX9_worth_29 : decode cX9_worth 29 = .ok (.iload_n 1, 1) := by decide +kernel
theorem dX9_worth_30 : decode cX9_worth 30 = .ok (.invokevirtual 342, 3) := by decide +kernel
theorem dX9_worth_33 : decode cX9_worth 33 = .ok (.aload_n 0, 1) := by decide +kernel
theorem dX9_worth_34 : decode cX9_worth 34 = .ok (.iload_n 2, 1) := by decide +kernel
theorem dX9_worth_35 : decode cX9_worth 35 = .ok (.invokevirtual 342, 3) := by decide +kernel
theorem dX9_worth_38 : decode cX9_worth 38 = .ok (.invokestatic 336, 3) := by decide +kernel
theorem dX9_worth_41 : decode cX9_worth 41 = .ok (.ireturn, 1) := by decide +kernel
theorem dX9_timeByNumber_0 : decode cX9_timeByNumber 0 = .ok (.aload_n 0, 1) := by decide +kernel
theorem dX9_timeByNumber_1 : decode cX9_timeByNumber 1 = .ok (.getfield 26, 3) := by decide +kernel
theorem dX9_timeByNumber_4 : decode cX9_timeByNumber 4 = .ok (.aload_n 0, 1) := by decide +kernel
theorem dX9_timeByNumber_5 : decode cX9_timeByNumber 5 = .ok (.getfield 19, 3) := by decide +kernel
theorem dX9_timeByNumber_8 : decode cX9_timeByNumber 8 = .ok (.invokevirtual 132, 3) := by decide +kernel
theorem dX9_timeByNumber_11 : decode cX9_timeByNumber 11 = .ok (.aload_n 0, 1) := by decide +kernel
theorem dX9_timeByNumber_12 : decode cX9_timeByNumber 12 = .ok (.getfield 26, 3) := by decide +kernel
theorem dX9_timeByNumber_15 : decode cX9_timeByNumber 15 = .ok (.iload_n 1, 1) := by decide +kernel
theorem dX9_timeByNumber_16 : decode cX9_timeByNumber 16 = .ok (.putfield 206, 3) := by decide +kernel
theorem dX9_timeByNumber_19 : decode cX9_timeByNumber 19 = .ok (.aload_n 0, 1) := by decide +kernel
theorem dX9_timeByNumber_20 : decode cX9_timeByNumber 20 = .ok (.getfield 32, 3) := by decide +kernel
theorem dX9_timeByNumber_23 : decode cX9_timeByNumber 23 = .ok (.aload_n 0, 1) := by decide +kernel
theorem dX9_timeByNumber_24 : decode cX9_timeByNumber 24 = .ok (.getfield 64, 3) := by decide +kernel
theorem dX9_timeByNumber_27 : decode cX9_timeByNumber 27 = .ok (.aload_n 0, 1) := by decide +kernel
theorem dX9_timeByNumber_28 : decode cX9_timeByNumber 28 = .ok (.getfield 26, 3) := by decide +kernel
theorem dX9_timeByNumber_31 : decode cX9_timeByNumber 31 = .ok (.invokevirtual 225, 3) := by decide +kernel
theorem dX9_timeByNumber_34 : decode cX9_timeByNumber 34 = .ok (.ireturn, 1) := by decide +kernel
theorem dX9_keep_0 : decode cX9_keep 0 = .ok (.aload_n 0, 1) := by decide +kernel
theorem dX9_keep_1 : decode cX9_keep 1 = .ok (.getfield 19, 3) := by decide +kernel
theorem dX9_keep_4 : decode cX9_keep 4 = .ok (.getfield 222, 3) := by decide +kernel
theorem dX9_keep_7 : decode cX9_keep 7 = .ok (.ifCond .ne 5, 3) := by decide +kernel
theorem dX9_keep_10 : decode cX9_keep 10 = .ok (.iconst 0, 1) := by decide +kernel
theorem dX9_keep_11 : decode cX9_keep 11 = .ok (.ireturn, 1) := by decide +kernel
theorem dX9_keep_12 : decode cX9_keep 12 = .ok (.aload_n 0, 1) := by decide +kernel
theorem dX9_keep_13 : decode cX9_keep 13 = .ok (.getfield 23, 3) := by decide +kernel
theorem dX9_keep_16 : decode cX9_keep 16 = .ok (.aload_n 0, 1) := by decide +kernel
theorem dX9_keep_17 : decode cX9_keep 17 = .ok (.getfield 19, 3) := by decide +kernel
theorem dX9_keep_20 : decode cX9_keep 20 = .ok (.invokevirtual 132, 3) := by decide +kernel
theorem dX9_keep_23 : decode cX9_keep 23 = .ok (.aload_n 0, 1) := by decide +kernel
theorem dX9_keep_24 : decode cX9_keep 24 = .ok (.iconst 1, 1) := by decide +kernel
theorem dX9_keep_25 : decode cX9_keep 25 = .ok (.putfield 80, 3) := by decide +kernel
theorem dX9_keep_28 : decode cX9_keep 28 = .ok (.iconst 1, 1) := by decide +kernel
theorem dX9_keep_29 : decode cX9_keep 29 = .ok (.ireturn, 1) := by decide +kernel
theorem dX9_lost_0 : decode cX9_lost 0 = .ok (.aload_n 0, 1) := by decide +kernel
theorem dX9_lost_1 : decode cX9_lost 1 = .ok (.getfield 19, 3) := by decide +kernel
theorem dX9_lost_4 : decode cX9_lost 4 = .ok (.getfield 222, 3) := by decide +kernel
theorem dX9_lost_7 : decode cX9_lost 7 = .ok (.ifCond .eq 19, 3) := by decide +kernel
theorem dX9_lost_10 : decode cX9_lost 10 = .ok (.aload_n 0, 1) := by decide +kernel
theorem dX9_lost_11 : decode cX9_lost 11 = .ok (.getfield 80, 3) := by decide +kernel
theorem dX9_lost_14 : decode cX9_lost 14 = .ok (.ifCond .eq 12, 3) := by decide +kernel
theorem dX9_lost_17 : decode cX9_lost 17 = .ok (.iload_n 1, 1) := by decide +kernel
theorem dX9_lost_18 : decode cX9_lost 18 = .ok (.ifCond .lt 8, 3) := by decide +kernel
theorem dX9_lost_21 : decode cX9_lost 21 = .ok (.iload_n 1, 1) := by decide +kernel
theorem dX9_lost_22 : decode cX9_lost 22 = .ok (.iconst 3, 1) := by decide +kernel
theorem dX9_lost_23 : decode cX9_lost 23 = .ok (.if_icmp .le 7, 3) := by decide +kernel
theorem dX9_lost_26 : decode cX9_lost 26 = .ok (.ldc_w 335, 3) := by decide +kernel
theorem dX9_lost_29 : decode cX9_lost 29 = .ok (.ireturn, 1) := by decide +kernel
theorem dX9_lost_30 : decode cX9_lost 30 = .ok (.aload_n 0, 1) := by decide +kernel
theorem dX9_lost_31 : decode cX9_lost 31 = .ok (.getfield 32, 3) := by decide +kernel
theorem dX9_lost_34 : decode cX9_lost 34 = .ok (.aload_n 0, 1) := by decide +kernel
theorem dX9_lost_35 : decode cX9_lost 35 = .ok (.getfield 64, 3) := by decide +kernel
theorem dX9_lost_38 : decode cX9_lost 38 = .ok (.aload_n 0, 1) := by decide +kernel
theorem dX9_lost_39 : decode cX9_lost 39 = .ok (.getfield 19, 3) := by decide +kernel
theorem dX9_lost_42 : decode cX9_lost 42 = .ok (.invokevirtual 225, 3) := by decide +kernel
theorem dX9_lost_45 : decode cX9_lost 45 = .ok (.istore_n 2, 1) := by decide +kernel
theorem dX9_lost_46 : decode cX9_lost 46 = .ok (.aload_n 0, 1) := by decide +kernel
theorem dX9_lost_47 : decode cX9_lost 47 = .ok (.getfield 36, 3) := by decide +kernel
theorem dX9_lost_50 : decode cX9_lost 50 = .ok (.aload_n 0, 1) := by decide +kernel
theorem dX9_lost_51 : decode cX9_lost 51 = .ok (.getfield 64, 3) := by decide +kernel
theorem dX9_lost_54 : decode cX9_lost 54 = .ok (.aload_n 0, 1) := by decide +kernel
theorem dX9_lost_55 : decode cX9_lost 55 = .ok (.getfield 23, 3) := by decide +kernel
theorem dX9_lost_58 : decode cX9_lost 58 = .ok (.invokevirtual 225, 3) := by decide +kernel
theorem dX9_lost_61 : decode cX9_lost 61 = .ok (.istore_n 3, 1) := by decide +kernel
theorem dX9_lost_62 : decode cX9_lost 62 = .ok (.aload_n 0, 1) := by decide +kernel
theorem dX9_lost_63 : decode cX9_lost 63 = .ok (.getfield 36, 3) := by decide +kernel
theorem dX9_lost_66 : decode cX9_lost 66 = .ok (.getfield 229, 3) := by decide +kernel
theorem dX9_lost_69 : decode cX9_lost 69 = .ok (.istore 4, 2) := by decide +kernel
theorem dX9_lost_71 : decode cX9_lost 71 = .ok (.iload_n 3, 1) := by decide +kernel
theorem dX9_lost_72 : decode cX9_lost 72 = .ok (.iload 4, 2) := by decide +kernel
theorem dX9_lost_74 : decode cX9_lost 74 = .ok (.isub, 1) := by decide +kernel
theorem dX9_lost_75 : decode cX9_lost 75 = .ok (.istore 5, 2) := by decide +kernel
theorem dX9_lost_77 : decode cX9_lost 77 = .ok (.aload_n 0, 1) := by decide +kernel
theorem dX9_lost_78 : decode cX9_lost 78 = .ok (.getfield 36, 3) := by decide +kernel
theorem dX9_lost_81 : decode cX9_lost 81 = .ok (.aload_n 0, 1) := by decide +kernel
theorem dX9_lost_82 : decode cX9_lost 82 = .ok (.getfield 64, 3) := by decide +kernel
theorem dX9_lost_85 : decode cX9_lost 85 = .ok (.aload_n 0, 1) := by decide +kernel
theorem dX9_lost_86 : decode cX9_lost 86 = .ok (.getfield 23, 3) := by decide +kernel
theorem dX9_lost_89 : decode cX9_lost 89 = .ok (.aload_n 0, 1) := by decide +kernel
theorem dX9_lost_90 : decode cX9_lost 90 = .ok (.getfield 32, 3) := by decide +kernel
theorem dX9_lost_93 : decode cX9_lost 93 = .ok (.getfield 232, 3) := by decide +kernel
theorem dX9_lost_96 : decode cX9_lost 96 = .ok (.aload_n 0, 1) := by decide +kernel
theorem dX9_lost_97 : decode cX9_lost 97 = .ok (.getfield 36, 3) := by decide +kernel
theorem dX9_lost_100 : decode cX9_lost 100 = .ok (.getfield 241, 3) := by decide +kernel
theorem dX9_lost_103 : decode cX9_lost 103 = .ok (.invokevirtual 345, 3) := by decide +kernel
theorem dX9_lost_106 : decode cX9_lost 106 = .ok (.istore 6, 2) := by decide +kernel
theorem dX9_lost_108 : decode cX9_lost 108 = .ok (.iload_n 2, 1) := by decide +kernel
theorem dX9_lost_109 : decode cX9_lost 109 = .ok (.iconst (-1), 1) := by decide +kernel
theorem dX9_lost_110 : decode cX9_lost 110 = .ok (.if_icmp .eq 14, 3) := by decide +kernel
theorem dX9_lost_113 : decode cX9_lost 113 = .ok (.iload_n 3, 1) := by decide +kernel
theorem dX9_lost_114 : decode cX9_lost 114 = .ok (.iconst (-1), 1) := by decide +kernel
theorem dX9_lost_115 : decode cX9_lost 115 = .ok (.if_icmp .eq 9, 3) := by decide +kernel
theorem dX9_lost_118 : decode cX9_lost 118 = .ok (.iload 6, 2) := by decide +kernel
theorem dX9_lost_120 : decode cX9_lost 120 = .ok (.iconst (-1), 1) := by decide +kernel
theorem dX9_lost_121 : decode cX9_lost 121 = .ok (.if_icmp .ne 7, 3) := by decide +kernel
theorem dX9_lost_124 : decode cX9_lost 124 = .ok (.ldc_w 335, 3) := by decide +kernel
theorem dX9_lost_127 : decode cX9_lost 127 = .ok (.ireturn, 1) := by decide +kernel
theorem dX9_lost_128 : decode cX9_lost 128 = .ok (.iload_n 2, 1) := by decide +kernel
theorem dX9_lost_129 : decode cX9_lost 129 = .ok (.iload_n 3, 1) := by decide +kernel
theorem dX9_lost_130 : decode cX9_lost 130 = .ok (.isub, 1) := by decide +kernel
theorem dX9_lost_131 : decode cX9_lost 131 = .ok (.istore 7, 2) := by decide +kernel
theorem dX9_lost_133 : decode cX9_lost 133 = .ok (.aload_n 0, 1) := by decide +kernel
theorem dX9_lost_134 : decode cX9_lost 134 = .ok (.getfield 32, 3) := by decide +kernel
theorem dX9_lost_137 : decode cX9_lost 137 = .ok (.getfield 229, 3) := by decide +kernel
theorem dX9_lost_140 : decode cX9_lost 140 = .ok (.iload 4, 2) := by decide +kernel
theorem dX9_lost_142 : decode cX9_lost 142 = .ok (.isub, 1) := by decide +kernel
theorem dX9_lost_143 : decode cX9_lost 143 = .ok (.istore 8, 2) := by decide +kernel
theorem dX9_lost_145 : decode cX9_lost 145 = .ok (.iload 6, 2) := by decide +kernel
theorem dX9_lost_147 : decode cX9_lost 147 = .ok (.iload 5, 2) := by decide +kernel
theorem dX9_lost_149 : decode cX9_lost 149 = .ok (.isub, 1) := by decide +kernel
theorem dX9_lost_150 : decode cX9_lost 150 = .ok (.istore 9, 2) := by decide +kernel
theorem dX9_lost_152 : decode cX9_lost 152 = .ok (.iload_n 1, 1) := by decide +kernel
theorem dX9_lost_153 : decode cX9_lost 153 = .ok (.tableswitch 42 0 2 #[27, 30, 33], 27) := by decide +kernel
theorem dX9_lost_180 : decode cX9_lost 180 = .ok (.iload 8, 2) := by decide +kernel
theorem dX9_lost_182 : decode cX9_lost 182 = .ok (.ireturn, 1) := by decide +kernel
theorem dX9_lost_183 : decode cX9_lost 183 = .ok (.iload 9, 2) := by decide +kernel
theorem dX9_lost_185 : decode cX9_lost 185 = .ok (.ireturn, 1) := by decide +kernel
theorem dX9_lost_186 : decode cX9_lost 186 = .ok (.iload 7, 2) := by decide +kernel
theorem dX9_lost_188 : decode cX9_lost 188 = .ok (.iload 8, 2) := by decide +kernel
theorem dX9_lost_190 : decode cX9_lost 190 = .ok (.isub, 1) := by decide +kernel
theorem dX9_lost_191 : decode cX9_lost 191 = .ok (.iload 9, 2) := by decide +kernel
theorem dX9_lost_193 : decode cX9_lost 193 = .ok (.isub, 1) := by decide +kernel
theorem dX9_lost_194 : decode cX9_lost 194 = .ok (.ireturn, 1) := by decide +kernel
theorem dX9_lost_195 : decode cX9_lost 195 = .ok (.iload 7, 2) := by decide +kernel
theorem dX9_lost_197 : decode cX9_lost 197 = .ok (.ireturn, 1) := by decide +kernel
theorem dX9_touch_0 : decode cX9_touch 0 = .ok (.aload_n 0, 1) := by decide +kernel
theorem dX9_touch_1 : decode cX9_touch 1 = .ok (.getfield 19, 3) := by decide +kernel
theorem dX9_touch_4 : decode cX9_touch 4 = .ok (.getfield 222, 3) := by decide +kernel
theorem dX9_touch_7 : decode cX9_touch 7 = .ok (.ifCond .eq 29, 3) := by decide +kernel
theorem dX9_touch_10 : decode cX9_touch 10 = .ok (.iload_n 1, 1) := by decide +kernel
theorem dX9_touch_11 : decode cX9_touch 11 = .ok (.ifCond .lt 25, 3) := by decide +kernel
theorem dX9_touch_14 : decode cX9_touch 14 = .ok (.iload_n 1, 1) := by decide +kernel
theorem dX9_touch_15 : decode cX9_touch 15 = .ok (.aload_n 0, 1) := by decide +kernel
theorem dX9_touch_16 : decode cX9_touch 16 = .ok (.getfield 64, 3) := by decide +kernel
theorem dX9_touch_19 : decode cX9_touch 19 = .ok (.getfield 180, 3) := by decide +kernel
theorem dX9_touch_22 : decode cX9_touch 22 = .ok (.if_icmp .ge 14, 3) := by decide +kernel
theorem dX9_touch_25 : decode cX9_touch 25 = .ok (.iload_n 2, 1) := by decide +kernel
theorem dX9_touch_26 : decode cX9_touch 26 = .ok (.iconst 1, 1) := by decide +kernel
theorem dX9_touch_27 : decode cX9_touch 27 = .ok (.if_icmp .lt 9, 3) := by decide +kernel
theorem dX9_touch_30 : decode cX9_touch 30 = .ok (.iload_n 2, 1) := by decide +kernel
theorem dX9_touch_31 : decode cX9_touch 31 = .ok (.bipush 99, 2) := by decide +kernel
theorem dX9_touch_33 : decode cX9_touch 33 = .ok (.if_icmp .le 7, 3) := by decide +kernel
theorem dX9_touch_36 : decode cX9_touch 36 = .ok (.ldc_w 335, 3) := by decide +kernel
theorem dX9_touch_39 : decode cX9_touch 39 = .ok (.ireturn, 1) := by decide +kernel
theorem dX9_touch_40 : decode cX9_touch 40 = .ok (.aload_n 0, 1) := by decide +kernel
theorem dX9_touch_41 : decode cX9_touch 41 = .ok (.getfield 32, 3) := by decide +kernel
theorem dX9_touch_44 : decode cX9_touch 44 = .ok (.aload_n 0, 1) := by decide +kernel
theorem dX9_touch_45 : decode cX9_touch 45 = .ok (.getfield 64, 3) := by decide +kernel
theorem dX9_touch_48 : decode cX9_touch 48 = .ok (.aload_n 0, 1) := by decide +kernel
theorem dX9_touch_49 : decode cX9_touch 49 = .ok (.getfield 19, 3) := by decide +kernel
theorem dX9_touch_52 : decode cX9_touch 52 = .ok (.invokevirtual 225, 3) := by decide +kernel
theorem dX9_touch_55 : decode cX9_touch 55 = .ok (.aload_n 0, 1) := by decide +kernel
theorem dX9_touch_56 : decode cX9_touch 56 = .ok (.getfield 36, 3) := by decide +kernel
theorem dX9_touch_59 : decode cX9_touch 59 = .ok (.aload_n 0, 1) := by decide +kernel
theorem dX9_touch_60 : decode cX9_touch 60 = .ok (.getfield 64, 3) := by decide +kernel
theorem dX9_touch_63 : decode cX9_touch 63 = .ok (.aload_n 0, 1) := by decide +kernel
theorem dX9_touch_64 : decode cX9_touch 64 = .ok (.getfield 19, 3) := by decide +kernel
theorem dX9_touch_67 : decode cX9_touch 67 = .ok (.iload_n 1, 1) := by decide +kernel
theorem dX9_touch_68 : decode cX9_touch 68 = .ok (.iload_n 2, 1) := by decide +kernel
theorem dX9_touch_69 : decode cX9_touch 69 = .ok (.invokevirtual 348, 3) := by decide +kernel
theorem dX9_touch_72 : decode cX9_touch 72 = .ok (.invokestatic 336, 3) := by decide +kernel
theorem dX9_touch_75 : decode cX9_touch 75 = .ok (.ireturn, 1) := by decide +kernel
theorem dX9_howMuchMore_0 : decode cX9_howMuchMore 0 = .ok (.iload_n 0, 1) := by decide +kernel
theorem dX9_howMuchMore_1 : decode cX9_howMuchMore 1 = .ok (.iconst (-1), 1) := by decide +kernel
theorem dX9_howMuchMore_2 : decode cX9_howMuchMore 2 = .ok (.if_icmp .eq 8, 3) := by decide +kernel
theorem dX9_howMuchMore_5 : decode cX9_howMuchMore 5 = .ok (.iload_n 1, 1) := by decide +kernel
theorem dX9_howMuchMore_6 : decode cX9_howMuchMore 6 = .ok (.iconst (-1), 1) := by decide +kernel
theorem dX9_howMuchMore_7 : decode cX9_howMuchMore 7 = .ok (.if_icmp .ne 9, 3) := by decide +kernel
theorem dX9_howMuchMore_10 : decode cX9_howMuchMore 10 = .ok (.ldc_w 335, 3) := by decide +kernel
theorem dX9_howMuchMore_13 : decode cX9_howMuchMore 13 = .ok (.goto 6, 3) := by decide +kernel
theorem dX9_howMuchMore_16 : decode cX9_howMuchMore 16 = .ok (.iload_n 1, 1) := by decide +kernel
theorem dX9_howMuchMore_17 : decode cX9_howMuchMore 17 = .ok (.iload_n 0, 1) := by decide +kernel
theorem dX9_howMuchMore_18 : decode cX9_howMuchMore 18 = .ok (.isub, 1) := by decide +kernel
theorem dX9_howMuchMore_19 : decode cX9_howMuchMore 19 = .ok (.ireturn, 1) := by decide +kernel
theorem dX9_isNumber_0 : decode cX9_isNumber 0 = .ok (.iload_n 0, 1) := by decide +kernel
theorem dX9_isNumber_1 : decode cX9_isNumber 1 = .ok (.iconst 1, 1) := by decide +kernel
theorem dX9_isNumber_2 : decode cX9_isNumber 2 = .ok (.if_icmp .lt 13, 3) := by decide +kernel
theorem dX9_isNumber_5 : decode cX9_isNumber 5 = .ok (.iload_n 0, 1) := by decide +kernel
theorem dX9_isNumber_6 : decode cX9_isNumber 6 = .ok (.bipush 60, 2) := by decide +kernel
theorem dX9_isNumber_8 : decode cX9_isNumber 8 = .ok (.if_icmp .gt 7, 3) := by decide +kernel
theorem dX9_isNumber_11 : decode cX9_isNumber 11 = .ok (.iconst 1, 1) := by decide +kernel
theorem dX9_isNumber_12 : decode cX9_isNumber 12 = .ok (.goto 4, 3) := by decide +kernel
theorem dX9_isNumber_15 : decode cX9_isNumber 15 = .ok (.iconst 0, 1) := by decide +kernel
theorem dX9_isNumber_16 : decode cX9_isNumber 16 = .ok (.ireturn, 1) := by decide +kernel
theorem dX9_drawn_0 : decode cX9_drawn 0 = .ok (.aload_n 0, 1) := by decide +kernel
theorem dX9_drawn_1 : decode cX9_drawn 1 = .ok (.getfield 19, 3) := by decide +kernel
theorem dX9_drawn_4 : decode cX9_drawn 4 = .ok (.getfield 222, 3) := by decide +kernel
theorem dX9_drawn_7 : decode cX9_drawn 7 = .ok (.ifCond .eq 22, 3) := by decide +kernel
theorem dX9_drawn_10 : decode cX9_drawn 10 = .ok (.aload_n 0, 1) := by decide +kernel
theorem dX9_drawn_11 : decode cX9_drawn 11 = .ok (.getfield 32, 3) := by decide +kernel
theorem dX9_drawn_14 : decode cX9_drawn 14 = .ok (.aload_n 0, 1) := by decide +kernel
theorem dX9_drawn_15 : decode cX9_drawn 15 = .ok (.getfield 64, 3) := by decide +kernel
theorem dX9_drawn_18 : decode cX9_drawn 18 = .ok (.aload_n 0, 1) := by decide +kernel
theorem dX9_drawn_19 : decode cX9_drawn 19 = .ok (.getfield 19, 3) := by decide +kernel
theorem dX9_drawn_22 : decode cX9_drawn 22 = .ok (.iload_n 1, 1) := by decide +kernel
theorem dX9_drawn_23 : decode cX9_drawn 23 = .ok (.invokevirtual 351, 3) := by decide +kernel
theorem dX9_drawn_26 : decode cX9_drawn 26 = .ok (.goto 4, 3) := by decide +kernel
theorem dX9_drawn_29 : decode cX9_drawn 29 = .ok (.iconst (-1), 1) := by decide +kernel
theorem dX9_drawn_30 : decode cX9_drawn 30 = .ok (.ireturn, 1) := by decide +kernel
theorem dX9_odds_0 : decode cX9_odds 0 = .ok (.aload_n 0, 1) := by decide +kernel
theorem dX9_odds_1 : decode cX9_odds 1 = .ok (.getfield 19, 3) := by decide +kernel
theorem dX9_odds_4 : decode cX9_odds 4 = .ok (.getfield 222, 3) := by decide +kernel
theorem dX9_odds_7 : decode cX9_odds 7 = .ok (.ifCond .eq 14, 3) := by decide +kernel
theorem dX9_odds_10 : decode cX9_odds 10 = .ok (.iload_n 1, 1) := by decide +kernel
theorem dX9_odds_11 : decode cX9_odds 11 = .ok (.iconst 1, 1) := by decide +kernel
theorem dX9_odds_12 : decode cX9_odds 12 = .ok (.if_icmp .lt 9, 3) := by decide +kernel
theorem dX9_odds_15 : decode cX9_odds 15 = .ok (.iload_n 1, 1) := by decide +kernel
theorem dX9_odds_16 : decode cX9_odds 16 = .ok (.bipush 60, 2) := by decide +kernel
theorem dX9_odds_18 : decode cX9_odds 18 = .ok (.if_icmp .le 5, 3) := by decide +kernel
theorem dX9_odds_21 : decode cX9_odds 21 = .ok (.iconst (-1), 1) := by decide +kernel
theorem dX9_odds_22 : decode cX9_odds 22 = .ok (.ireturn, 1) := by decide +kernel
theorem dX9_odds_23 : decode cX9_odds 23 = .ok (.iconst 0, 1) := by decide +kernel
theorem dX9_odds_24 : decode cX9_odds 24 = .ok (.istore 4, 2) := by decide +kernel
theorem dX9_odds_26 : decode cX9_odds 26 = .ok (.iconst 0, 1) := by decide +kernel
theorem dX9_odds_27 : decode cX9_odds 27 = .ok (.istore 5, 2) := by decide +kernel
theorem dX9_odds_29 : decode cX9_odds 29 = .ok (.iload 5, 2) := by decide +kernel
theorem dX9_odds_31 : decode cX9_odds 31 = .ok (.iload_n 1, 1) := by decide +kernel
theorem dX9_odds_32 : decode cX9_odds 32 = .ok (.if_icmp .ge 45, 3) := by decide +kernel
theorem dX9_odds_35 : decode cX9_odds 35 = .ok (.aload_n 0, 1) := by decide +kernel
theorem dX9_odds_36 : decode cX9_odds 36 = .ok (.getfield 32, 3) := by decide +kernel
theorem dX9_odds_39 : decode cX9_odds 39 = .ok (.aload_n 0, 1) := by decide +kernel
theorem dX9_odds_40 : decode cX9_odds 40 = .ok (.getfield 64, 3) := by decide +kernel
theorem dX9_odds_43 : decode cX9_odds 43 = .ok (.aload_n 0, 1) := by decide +kernel
theorem dX9_odds_44 : decode cX9_odds 44 = .ok (.getfield 19, 3) := by decide +kernel
theorem dX9_odds_47 : decode cX9_odds 47 = .ok (.iload_n 2, 1) := by decide +kernel
theorem dX9_odds_48 : decode cX9_odds 48 = .ok (.iload 5, 2) := by decide +kernel
theorem dX9_odds_50 : decode cX9_odds 50 = .ok (.iadd, 1) := by decide +kernel
theorem dX9_odds_51 : decode cX9_odds 51 = .ok (.invokevirtual 351, 3) := by decide +kernel
theorem dX9_odds_54 : decode cX9_odds 54 = .ok (.istore 6, 2) := by decide +kernel
theorem dX9_odds_56 : decode cX9_odds 56 = .ok (.iload 6, 2) := by decide +kernel
theorem dX9_odds_58 : decode cX9_odds 58 = .ok (.iconst (-1), 1) := by decide +kernel
theorem dX9_odds_59 : decode cX9_odds 59 = .ok (.if_icmp .eq 12, 3) := by decide +kernel
theorem dX9_odds_62 : decode cX9_odds 62 = .ok (.iload 6, 2) := by decide +kernel
theorem dX9_odds_64 : decode cX9_odds 64 = .ok (.iload_n 3, 1) := by decide +kernel
theorem dX9_odds_65 : decode cX9_odds 65 = .ok (.if_icmp .ge 6, 3) := by decide +kernel
theorem dX9_odds_68 : decode cX9_odds 68 = .ok (.iinc 4 1, 3) := by decide +kernel
theorem dX9_odds_71 : decode cX9_odds 71 = .ok (.iinc 5 1, 3) := by decide +kernel
theorem dX9_odds_74 : decode cX9_odds 74 = .ok (.goto (-45), 3) := by decide +kernel
theorem dX9_odds_77 : decode cX9_odds 77 = .ok (.iload 4, 2) := by decide +kernel
theorem dX9_odds_79 : decode cX9_odds 79 = .ok (.ireturn, 1) := by decide +kernel
theorem dX9_said_0 : decode cX9_said 0 = .ok (.aload_n 0, 1) := by decide +kernel
theorem dX9_said_1 : decode cX9_said 1 = .ok (.getfield 68, 3) := by decide +kernel
theorem dX9_said_4 : decode cX9_said 4 = .ok (.ifnull 8, 3) := by decide +kernel
theorem dX9_said_7 : decode cX9_said 7 = .ok (.iload_n 1, 1) := by decide +kernel
theorem dX9_said_8 : decode cX9_said 8 = .ok (.iconst (-1), 1) := by decide +kernel
theorem dX9_said_9 : decode cX9_said 9 = .ok (.if_icmp .ge 5, 3) := by decide +kernel
theorem dX9_said_12 : decode cX9_said 12 = .ok (.iconst (-1), 1) := by decide +kernel
theorem dX9_said_13 : decode cX9_said 13 = .ok (.ireturn, 1) := by decide +kernel
theorem dX9_said_14 : decode cX9_said 14 = .ok (.aload_n 0, 1) := by decide +kernel
theorem dX9_said_15 : decode cX9_said 15 = .ok (.getfield 19, 3) := by decide +kernel
theorem dX9_said_18 : decode cX9_said 18 = .ok (.getfield 222, 3) := by decide +kernel
theorem dX9_said_21 : decode cX9_said 21 = .ok (.ifCond .eq 10, 3) := by decide +kernel
theorem dX9_said_24 : decode cX9_said 24 = .ok (.aload_n 0, 1) := by decide +kernel
theorem dX9_said_25 : decode cX9_said 25 = .ok (.invokevirtual 355, 3) := by decide +kernel
theorem dX9_said_28 : decode cX9_said 28 = .ok (.goto 4, 3) := by decide +kernel
theorem dX9_said_31 : decode cX9_said 31 = .ok (.iconst 0, 1) := by decide +kernel
theorem dX9_said_32 : decode cX9_said 32 = .ok (.istore_n 2, 1) := by decide +kernel
theorem dX9_said_33 : decode cX9_said 33 = .ok (.iconst 0, 1) := by decide +kernel
theorem dX9_said_34 : decode cX9_said 34 = .ok (.istore_n 3, 1) := by decide +kernel
theorem dX9_said_35 : decode cX9_said 35 = .ok (.iconst 0, 1) := by decide +kernel
theorem dX9_said_36 : decode cX9_said 36 = .ok (.istore 4, 2) := by decide +kernel
theorem dX9_said_38 : decode cX9_said 38 = .ok (.iload 4, 2) := by decide +kernel
theorem dX9_said_40 : decode cX9_said 40 = .ok (.aload_n 0, 1) := by decide +kernel
theorem dX9_said_41 : decode cX9_said 41 = .ok (.getfield 64, 3) := by decide +kernel
theorem dX9_said_44 : decode cX9_said 44 = .ok (.getfield 153, 3) := by decide +kernel
theorem dX9_said_47 : decode cX9_said 47 = .ok (.if_icmp .ge 41, 3) := by decide +kernel
theorem dX9_said_50 : decode cX9_said 50 = .ok (.aload_n 0, 1) := by decide +kernel
theorem dX9_said_51 : decode cX9_said 51 = .ok (.getfield 68, 3) := by decide +kernel
theorem dX9_said_54 : decode cX9_said 54 = .ok (.iload 4, 2) := by decide +kernel
theorem dX9_said_56 : decode cX9_said 56 = .ok (.aload_n 0, 1) := by decide +kernel
theorem dX9_said_57 : decode cX9_said 57 = .ok (.getfield 64, 3) := by decide +kernel
theorem dX9_said_60 : decode cX9_said 60 = .ok (.aload_n 0, 1) := by decide +kernel
theorem dX9_said_61 : decode cX9_said 61 = .ok (.getfield 19, 3) := by decide +kernel
theorem dX9_said_64 : decode cX9_said 64 = .ok (.iload_n 2, 1) := by decide +kernel
theorem dX9_said_65 : decode cX9_said 65 = .ok (.invokevirtual 359, 3) := by decide +kernel
theorem dX9_said_68 : decode cX9_said 68 = .ok (.ifCond .eq 14, 3) := by decide +kernel
theorem dX9_said_71 : decode cX9_said 71 = .ok (.iload_n 3, 1) := by decide +kernel
theorem dX9_said_72 : decode cX9_said 72 = .ok (.iload_n 1, 1) := by decide +kernel
theorem dX9_said_73 : decode cX9_said 73 = .ok (.if_icmp .ne 6, 3) := by decide +kernel
theorem dX9_said_76 : decode cX9_said 76 = .ok (.iload 4, 2) := by decide +kernel
theorem dX9_said_78 : decode cX9_said 78 = .ok (.ireturn, 1) := by decide +kernel
theorem dX9_said_79 : decode cX9_said 79 = .ok (.iinc 3 1, 3) := by decide +kernel
theorem dX9_said_82 : decode cX9_said 82 = .ok (.iinc 4 1, 3) := by decide +kernel
theorem dX9_said_85 : decode cX9_said 85 = .ok (.goto (-47), 3) := by decide +kernel
theorem dX9_said_88 : decode cX9_said 88 = .ok (.iload_n 1, 1) := by decide +kernel
theorem dX9_said_89 : decode cX9_said 89 = .ok (.iconst (-1), 1) := by decide +kernel
theorem dX9_said_90 : decode cX9_said 90 = .ok (.if_icmp .ne 7, 3) := by decide +kernel
theorem dX9_said_93 : decode cX9_said 93 = .ok (.iload_n 3, 1) := by decide +kernel
theorem dX9_said_94 : decode cX9_said 94 = .ok (.goto 4, 3) := by decide +kernel
theorem dX9_said_97 : decode cX9_said 97 = .ok (.iconst (-1), 1) := by decide +kernel
theorem dX9_said_98 : decode cX9_said 98 = .ok (.ireturn, 1) := by decide +kernel
theorem dX9_gotIn_0 : decode cX9_gotIn 0 = .ok (.aload_n 0, 1) := by decide +kernel
theorem dX9_gotIn_1 : decode cX9_gotIn 1 = .ok (.getfield 32, 3) := by decide +kernel
theorem dX9_gotIn_4 : decode cX9_gotIn 4 = .ok (.aload_n 0, 1) := by decide +kernel
theorem dX9_gotIn_5 : decode cX9_gotIn 5 = .ok (.getfield 64, 3) := by decide +kernel
theorem dX9_gotIn_8 : decode cX9_gotIn 8 = .ok (.aload_n 0, 1) := by decide +kernel
theorem dX9_gotIn_9 : decode cX9_gotIn 9 = .ok (.getfield 19, 3) := by decide +kernel
theorem dX9_gotIn_12 : decode cX9_gotIn 12 = .ok (.invokevirtual 225, 3) := by decide +kernel
theorem dX9_gotIn_15 : decode cX9_gotIn 15 = .ok (.pop, 1) := by decide +kernel
theorem dX9_gotIn_16 : decode cX9_gotIn 16 = .ok (.aload_n 0, 1) := by decide +kernel
theorem dX9_gotIn_17 : decode cX9_gotIn 17 = .ok (.getfield 32, 3) := by decide +kernel
theorem dX9_gotIn_20 : decode cX9_gotIn 20 = .ok (.getfield 235, 3) := by decide +kernel
theorem dX9_gotIn_23 : decode cX9_gotIn 23 = .ok (.ireturn, 1) := by decide +kernel
theorem dX9_image_0 : decode cX9_image 0 = .ok (.iload_n 1, 1) := by decide +kernel
theorem dX9_image_1 : decode cX9_image 1 = .ok (.ifCond .lt 8, 3) := by decide +kernel
theorem dX9_image_4 : decode cX9_image 4 = .ok (.iload_n 1, 1) := by decide +kernel
theorem dX9_image_5 : decode cX9_image 5 = .ok (.iconst 2, 1) := by decide +kernel
theorem dX9_image_6 : decode cX9_image 6 = .ok (.if_icmp .lt 5, 3) := by decide +kernel
theorem dX9_image_9 : decode cX9_image 9 = .ok (.iconst 0, 1) := by decide +kernel
theorem dX9_image_10 : decode cX9_image 10 = .ok (.ireturn, 1) := by decide +kernel
theorem dX9_image_11 : decode cX9_image 11 = .ok (.aload_n 0, 1) := by decide +kernel
theorem dX9_image_12 : decode cX9_image 12 = .ok (.getfield 45, 3) := by decide +kernel
theorem dX9_image_15 : decode cX9_image 15 = .ok (.iload_n 1, 1) := by decide +kernel
theorem dX9_image_16 : decode cX9_image 16 = .ok (.aaload, 1) := by decide +kernel
theorem dX9_image_17 : decode cX9_image 17 = .ok (.astore_n 2, 1) := by decide +kernel
theorem dX9_image_18 : decode cX9_image 18 = .ok (.aload_n 2, 1) := by decide +kernel
theorem dX9_image_19 : decode cX9_image 19 = .ok (.aload_n 0, 1) := by decide +kernel
theorem dX9_image_20 : decode cX9_image 20 = .ok (.getfield 64, 3) := by decide +kernel
theorem dX9_image_23 : decode cX9_image 23 = .ok (.putfield 363, 3) := by decide +kernel
theorem dX9_image_26 : decode cX9_image 26 = .ok (.aload_n 2, 1) := by decide +kernel
theorem dX9_image_27 : decode cX9_image 27 = .ok (.getfield 364, 3) := by decide +kernel
theorem dX9_image_30 : decode cX9_image 30 = .ok (.aload_n 0, 1) := by decide +kernel
theorem dX9_image_31 : decode cX9_image 31 = .ok (.getfield 19, 3) := by decide +kernel
theorem dX9_image_34 : decode cX9_image 34 = .ok (.invokevirtual 132, 3) := by decide +kernel
theorem dX9_image_37 : decode cX9_image 37 = .ok (.aload_n 2, 1) := by decide +kernel
theorem dX9_image_38 : decode cX9_image 38 = .ok (.getfield 365, 3) := by decide +kernel
theorem dX9_image_41 : decode cX9_image 41 = .ok (.aload_n 0, 1) := by decide +kernel
theorem dX9_image_42 : decode cX9_image 42 = .ok (.getfield 23, 3) := by decide +kernel
theorem dX9_image_45 : decode cX9_image 45 = .ok (.invokevirtual 132, 3) := by decide +kernel
theorem dX9_image_48 : decode cX9_image 48 = .ok (.aload_n 2, 1) := by decide +kernel
theorem dX9_image_49 : decode cX9_image 49 = .ok (.aload_n 0, 1) := by decide +kernel
theorem dX9_image_50 : decode cX9_image 50 = .ok (.getfield 80, 3) := by decide +kernel
theorem dX9_image_53 : decode cX9_image 53 = .ok (.putfield 366, 3) := by decide +kernel
theorem dX9_image_56 : decode cX9_image 56 = .ok (.aload_n 2, 1) := by decide +kernel
theorem dX9_image_57 : decode cX9_image 57 = .ok (.aload_n 0, 1) := by decide +kernel
theorem dX9_image_58 : decode cX9_image 58 = .ok (.getfield 68, 3) := by decide +kernel
theorem dX9_image_61 : decode cX9_image 61 = .ok (.putfield 367, 3) := by decide +kernel
theorem dX9_image_64 : decode cX9_image 64 = .ok (.iconst 1, 1) := by decide +kernel
theorem dX9_image_65 : decode cX9_image 65 = .ok (.ireturn, 1) := by decide +kernel
theorem dX9_restore_0 : decode cX9_restore 0 = .ok (.iload_n 1, 1) := by decide +kernel
theorem dX9_restore_1 : decode cX9_restore 1 = .ok (.ifCond .lt 20, 3) := by decide +kernel
theorem dX9_restore_4 : decode cX9_restore 4 = .ok (.iload_n 1, 1) := by decide +kernel
theorem dX9_restore_5 : decode cX9_restore 5 = .ok (.iconst 2, 1) := by decide +kernel
theorem dX9_restore_6 : decode cX9_restore 6 = .ok (.if_icmp .ge 15, 3) := by decide +kernel
theorem dX9_restore_9 : decode cX9_restore 9 = .ok (.aload_n 0, 1) := by decide +kernel
theorem dX9_restore_10 : decode cX9_restore 10 = .ok (.getfield 45, 3) := by decide +kernel
theorem dX9_restore_13 : decode cX9_restore 13 = .ok (.iload_n 1, 1) := by decide +kernel
theorem dX9_restore_14 : decode cX9_restore 14 = .ok (.aaload, 1) := by decide +kernel
theorem dX9_restore_15 : decode cX9_restore 15 = .ok (.getfield 363, 3) := by decide +kernel
theorem dX9_restore_18 : decode cX9_restore 18 = .ok (.ifnonnull 5, 3) := by decide +kernel
theorem dX9_restore_21 : decode cX9_restore 21 = .ok (.iconst 0, 1) := by decide +kernel
theorem dX9_restore_22 : decode cX9_restore 22 = .ok (.ireturn, 1) := by decide +kernel
theorem dX9_restore_23 : decode cX9_restore 23 = .ok (.aload_n 0, 1) := by decide +kernel
theorem dX9_restore_24 : decode cX9_restore 24 = .ok (.getfield 45, 3) := by decide +kernel
theorem dX9_restore_27 : decode cX9_restore 27 = .ok (.iload_n 1, 1) := by decide +kernel
theorem dX9_restore_28 : decode cX9_restore 28 = .ok (.aaload, 1) := by decide +kernel
theorem dX9_restore_29 : decode cX9_restore 29 = .ok (.astore_n 2, 1) := by decide +kernel
theorem dX9_restore_30 : decode cX9_restore 30 = .ok (.aload_n 0, 1) := by decide +kernel
theorem dX9_restore_31 : decode cX9_restore 31 = .ok (.aload_n 2, 1) := by decide +kernel
theorem dX9_restore_32 : decode cX9_restore 32 = .ok (.getfield 363, 3) := by decide +kernel
theorem dX9_restore_35 : decode cX9_restore 35 = .ok (.putfield 64, 3) := by decide +kernel
theorem dX9_restore_38 : decode cX9_restore 38 = .ok (.aload_n 0, 1) := by decide +kernel
theorem dX9_restore_39 : decode cX9_restore 39 = .ok (.getfield 19, 3) := by decide +kernel
theorem dX9_restore_42 : decode cX9_restore 42 = .ok (.aload_n 2, 1) := by decide +kernel
theorem dX9_restore_43 : decode cX9_restore 43 = .ok (.getfield 364, 3) := by decide +kernel
theorem dX9_restore_46 : decode cX9_restore 46 = .ok (.invokevirtual 132, 3) := by decide +kernel
theorem dX9_restore_49 : decode cX9_restore 49 = .ok (.aload_n 0, 1) := by decide +kernel
theorem dX9_restore_50 : decode cX9_restore 50 = .ok (.getfield 23, 3) := by decide +kernel
theorem dX9_restore_53 : decode cX9_restore 53 = .ok (.aload_n 2, 1) := by decide +kernel
theorem dX9_restore_54 : decode cX9_restore 54 = .ok (.getfield 365, 3) := by decide +kernel
theorem dX9_restore_57 : decode cX9_restore 57 = .ok (.invokevirtual 132, 3) := by decide +kernel
theorem dX9_restore_60 : decode cX9_restore 60 = .ok (.aload_n 0, 1) := by decide +kernel
theorem dX9_restore_61 : decode cX9_restore 61 = .ok (.aload_n 2, 1) := by decide +kernel
theorem dX9_restore_62 : decode cX9_restore 62 = .ok (.getfield 366, 3) := by decide +kernel
theorem dX9_restore_65 : decode cX9_restore 65 = .ok (.putfield 80, 3) := by decide +kernel
theorem dX9_restore_68 : decode cX9_restore 68 = .ok (.aload_n 0, 1) := by decide +kernel
theorem dX9_restore_69 : decode cX9_restore 69 = .ok (.aload_n 2, 1) := by decide +kernel
theorem dX9_restore_70 : decode cX9_restore 70 = .ok (.getfield 367, 3) := by decide +kernel
theorem dX9_restore_73 : decode cX9_restore 73 = .ok (.putfield 68, 3) := by decide +kernel
theorem dX9_restore_76 : decode cX9_restore 76 = .ok (.aload_n 0, 1) := by decide +kernel
theorem dX9_restore_77 : decode cX9_restore 77 = .ok (.invokevirtual 119, 3) := by decide +kernel
theorem dX9_restore_80 : decode cX9_restore 80 = .ok (.iconst 1, 1) := by decide +kernel
theorem dX9_restore_81 : decode cX9_restore 81 = .ok (.ireturn, 1) := by decide +kernel
theorem dX9_bounded_0 : decode cX9_bounded 0 = .ok (.bipush 10, 2) := by decide +kernel
theorem dX9_bounded_2 : decode cX9_bounded 2 = .ok (.sipush 250, 3) := by decide +kernel
theorem dX9_bounded_5 : decode cX9_bounded 5 = .ok (.iload_n 0, 1) := by decide +kernel
theorem dX9_bounded_6 : decode cX9_bounded 6 = .ok (.invokestatic 264, 3) := by decide +kernel
theorem dX9_bounded_9 : decode cX9_bounded 9 = .ok (.invokestatic 368, 3) := by decide +kernel
theorem dX9_bounded_12 : decode cX9_bounded 12 = .ok (.ireturn, 1) := by decide +kernel
theorem dX9_timeFor_0 : decode cX9_timeFor 0 = .ok (.iload_n 1, 1) := by decide +kernel
theorem dX9_timeFor_1 : decode cX9_timeFor 1 = .ok (.bipush 10, 2) := by decide +kernel
theorem dX9_timeFor_3 : decode cX9_timeFor 3 = .ok (.if_icmp .ge 7, 3) := by decide +kernel
theorem dX9_timeFor_6 : decode cX9_timeFor 6 = .ok (.iconst 0, 1) := by decide +kernel
theorem dX9_timeFor_7 : decode cX9_timeFor 7 = .ok (.goto 10, 3) := by decide +kernel
theorem dX9_timeFor_10 : decode cX9_timeFor 10 = .ok (.iload_n 0, 1) := by decide +kernel
theorem dX9_timeFor_11 : decode cX9_timeFor 11 = .ok (.sipush 3000, 3) := by decide +kernel
theorem dX9_timeFor_14 : decode cX9_timeFor 14 = .ok (.imul, 1) := by decide +kernel
theorem dX9_timeFor_15 : decode cX9_timeFor 15 = .ok (.iload_n 1, 1) := by decide +kernel
theorem dX9_timeFor_16 : decode cX9_timeFor 16 = .ok (.idiv, 1) := by decide +kernel
theorem dX9_timeFor_17 : decode cX9_timeFor 17 = .ok (.ireturn, 1) := by decide +kernel
theorem dX10_throwsIf_0 : decode cX10_throwsIf 0 = .ok (.aload_n 0, 1) := by decide +kernel
theorem dX10_throwsIf_1 : decode cX10_throwsIf 1 = .ok (.iload_n 1, 1) := by decide +kernel
theorem dX10_throwsIf_2 : decode cX10_throwsIf 2 = .ok (.ifCond .eq 7, 3) := by decide +kernel
theorem dX10_throwsIf_5 : decode cX10_throwsIf 5 = .ok (.iconst 1, 1) := by decide +kernel
theorem dX10_throwsIf_6 : decode cX10_throwsIf 6 = .ok (.goto 4, 3) := by decide +kernel
theorem dX10_throwsIf_9 : decode cX10_throwsIf 9 = .ok (.iconst 0, 1) := by decide +kernel
theorem dX10_throwsIf_10 : decode cX10_throwsIf 10 = .ok (.putfield 1, 3) := by decide +kernel
theorem dX10_throwsIf_13 : decode cX10_throwsIf 13 = .ok (.iload_n 1, 1) := by decide +kernel
theorem dX10_throwsIf_14 : decode cX10_throwsIf 14 = .ok (.ireturn, 1) := by decide +kernel
theorem dX10_feed_0 : decode cX10_feed 0 = .ok (.aload_n 0, 1) := by decide +kernel
theorem dX10_feed_1 : decode cX10_feed 1 = .ok (.iconst 0, 1) := by decide +kernel
theorem dX10_feed_2 : decode cX10_feed 2 = .ok (.putfield 1, 3) := by decide +kernel
theorem dX10_feed_5 : decode cX10_feed 5 = .ok (.aload_n 0, 1) := by decide +kernel
theorem dX10_feed_6 : decode cX10_feed 6 = .ok (.getfield 7, 3) := by decide +kernel
theorem dX10_feed_9 : decode cX10_feed 9 = .ok (.bipush 20, 2) := by decide +kernel
theorem dX10_feed_11 : decode cX10_feed 11 = .ok (.iadd, 1) := by decide +kernel
theorem dX10_feed_12 : decode cX10_feed 12 = .ok (.sipush 940, 3) := by decide +kernel
theorem dX10_feed_15 : decode cX10_feed 15 = .ok (.if_icmp .le 5, 3) := by decide +kernel
theorem dX10_feed_18 : decode cX10_feed 18 = .ok (.iconst (-1), 1) := by decide +kernel
theorem dX10_feed_19 : decode cX10_feed 19 = .ok (.ireturn, 1) := by decide +kernel
theorem dX10_feed_20 : decode cX10_feed 20 = .ok (.aload_n 0, 1) := by decide +kernel
theorem dX10_feed_21 : decode cX10_feed 21 = .ok (.iload_n 1, 1) := by decide +kernel
theorem dX10_feed_22 : decode cX10_feed 22 = .ok (.invokevirtual 10, 3) := by decide +kernel
theorem dX10_feed_25 : decode cX10_feed 25 = .ok (.aload_n 0, 1) := by decide +kernel
theorem dX10_feed_26 : decode cX10_feed 26 = .ok (.iload_n 2, 1) := by decide +kernel
theorem dX10_feed_27 : decode cX10_feed 27 = .ok (.invokevirtual 10, 3) := by decide +kernel
theorem dX10_feed_30 : decode cX10_feed 30 = .ok (.aload_n 0, 1) := by decide +kernel
theorem dX10_feed_31 : decode cX10_feed 31 = .ok (.iload_n 3, 1) := by decide +kernel
theorem dX10_feed_32 : decode cX10_feed 32 = .ok (.invokevirtual 10, 3) := by decide +kernel
theorem dX10_feed_35 : decode cX10_feed 35 = .ok (.aload_n 0, 1) := by decide +kernel
theorem dX10_feed_36 : decode cX10_feed 36 = .ok (.iload 4, 2) := by decide +kernel
theorem dX10_feed_38 : decode cX10_feed 38 = .ok (.invokevirtual 10, 3) := by decide +kernel
theorem dX10_feed_41 : decode cX10_feed 41 = .ok (.aload_n 0, 1) := by decide +kernel
theorem dX10_feed_42 : decode cX10_feed 42 = .ok (.iload 5, 2) := by decide +kernel
theorem dX10_feed_44 : decode cX10_feed 44 = .ok (.invokevirtual 10, 3) := by decide +kernel
theorem dX10_feed_47 : decode cX10_feed 47 = .ok (.aload_n 0, 1) := by decide +kernel
theorem dX10_feed_48 : decode cX10_feed 48 = .ok (.getfield 7, 3) := by decide +kernel
theorem dX10_feed_51 : decode cX10_feed 51 = .ok (.ireturn, 1) := by decide +kernel
theorem dX10_bytes4_0 : decode cX10_bytes4 0 = .ok (.bipush 24, 2) := by decide +kernel
theorem dX10_bytes4_2 : decode cX10_bytes4 2 = .ok (.istore_n 2, 1) := by decide +kernel
theorem dX10_bytes4_3 : decode cX10_bytes4 3 = .ok (.iload_n 2, 1) := by decide +kernel
theorem dX10_bytes4_4 : decode cX10_bytes4 4 = .ok (.ifCond .lt 32, 3) := by decide +kernel
theorem dX10_bytes4_7 : decode cX10_bytes4 7 = .ok (.aload_n 0, 1) := by decide +kernel
theorem dX10_bytes4_8 : decode cX10_bytes4 8 = .ok (.getfield 14, 3) := by decide +kernel
theorem dX10_bytes4_11 : decode cX10_bytes4 11 = .ok (.aload_n 0, 1) := by decide +kernel
theorem dX10_bytes4_12 : decode cX10_bytes4 12 = .ok (.getfield 7, 3) := by decide +kernel
theorem dX10_bytes4_15 : decode cX10_bytes4 15 = .ok (.iload_n 1, 1) := by decide +kernel
theorem dX10_bytes4_16 : decode cX10_bytes4 16 = .ok (.iload_n 2, 1) := by decide +kernel
theorem dX10_bytes4_17 : decode cX10_bytes4 17 = .ok (.ishr, 1) := by decide +kernel
theorem dX10_bytes4_18 : decode cX10_bytes4 18 = .ok (.i2b, 1) := by decide +kernel
theorem dX10_bytes4_19 : decode cX10_bytes4 19 = .ok (.bastore, 1) := by decide +kernel
theorem dX10_bytes4_20 : decode cX10_bytes4 20 = .ok (.aload_n 0, 1) := by decide +kernel
theorem dX10_bytes4_21 : decode cX10_bytes4 21 = .ok (.dup, 1) := by decide +kernel
theorem dX10_bytes4_22 : decode cX10_bytes4 22 = .ok (.getfield 7, 3) := by decide +kernel
theorem dX10_bytes4_25 : decode cX10_bytes4 25 = .ok (.iconst 1, 1) := by decide +kernel
theorem dX10_bytes4_26 : decode cX10_bytes4 26 = .ok (.iadd, 1) := by decide +kernel
theorem dX10_bytes4_27 : decode cX10_bytes4 27 = .ok (.putfield 7, 3) := by decide +kernel
theorem dX10_bytes4_30 : decode cX10_bytes4 30 = .ok (.iinc 2 (-8), 3) := by decide +kernel
theorem dX10_bytes4_33 : decode cX10_bytes4 33 = .ok (.goto (-30), 3) := by decide +kernel
theorem dX10_bytes4_36 : decode cX10_bytes4 36 = .ok (.return_, 1) := by decide +kernel
theorem dX10_end_0 : decode cX10_end 0 = .ok (.aload_n 0, 1) := by decide +kernel
theorem dX10_end_1 : decode cX10_end 1 = .ok (.iconst 0, 1) := by decide +kernel
theorem dX10_end_2 : decode cX10_end 2 = .ok (.putfield 1, 3) := by decide +kernel
theorem dX10_end_5 : decode cX10_end 5 = .ok (.iload_n 1, 1) := by decide +kernel
theorem dX10_end_6 : decode cX10_end 6 = .ok (.ifCond .lt 11, 3) := by decide +kernel
theorem dX10_end_9 : decode cX10_end 9 = .ok (.iload_n 1, 1) := by decide +kernel
theorem dX10_end_10 : decode cX10_end 10 = .ok (.aload_n 0, 1) := by decide +kernel
theorem dX10_end_11 : decode cX10_end 11 = .ok (.getfield 7, 3) := by decide +kernel
theorem dX10_end_14 : decode cX10_end 14 = .ok (.if_icmp .le 5, 3) := by decide +kernel
theorem dX10_end_17 : decode cX10_end 17 = .ok (.iconst 0, 1) := by decide +kernel
theorem dX10_end_18 : decode cX10_end 18 = .ok (.ireturn, 1) := by decide +kernel
theorem dX10_end_19 : decode cX10_end 19 = .ok (.aload_n 0, 1) := by decide +kernel
theorem dX10_end_20 : decode cX10_end 20 = .ok (.iload_n 1, 1) := by decide +kernel
theorem dX10_end_21 : decode cX10_end 21 = .ok (.putfield 7, 3) := by decide +kernel
theorem dX10_end_24 : decode cX10_end 24 = .ok (.iconst 1, 1) := by decide +kernel
theorem dX10_end_25 : decode cX10_end 25 = .ok (.ireturn, 1) := by decide +kernel
theorem dX10_taken_0 : decode cX10_taken 0 = .ok (.aload_n 0, 1) := by decide +kernel
theorem dX10_taken_1 : decode cX10_taken 1 = .ok (.aload_n 0, 1) := by decide +kernel
theorem dX10_taken_2 : decode cX10_taken 2 = .ok (.getfield 7, 3) := by decide +kernel
theorem dX10_taken_5 : decode cX10_taken 5 = .ok (.putfield 18, 3) := by decide +kernel
theorem dX10_taken_8 : decode cX10_taken 8 = .ok (.aload_n 0, 1) := by decide +kernel
theorem dX10_taken_9 : decode cX10_taken 9 = .ok (.iconst 0, 1) := by decide +kernel
theorem dX10_taken_10 : decode cX10_taken 10 = .ok (.putfield 7, 3) := by decide +kernel
theorem dX10_taken_13 : decode cX10_taken 13 = .ok (.aload_n 0, 1) := by decide +kernel
theorem dX10_taken_14 : decode cX10_taken 14 = .ok (.iconst 0, 1) := by decide +kernel
theorem dX10_taken_15 : decode cX10_taken 15 = .ok (.putfield 21, 3) := by decide +kernel
theorem dX10_taken_18 : decode cX10_taken 18 = .ok (.aload_n 0, 1) := by decide +kernel
theorem dX10_taken_19 : decode cX10_taken 19 = .ok (.iload_n 1, 1) := by decide +kernel
theorem dX10_taken_20 : decode cX10_taken 20 = .ok (.putfield 24, 3) := by decide +kernel
theorem dX10_taken_23 : decode cX10_taken 23 = .ok (.return_, 1) := by decide +kernel
theorem dX10_isIn_0 : decode cX10_isIn 0 = .ok (.iload_n 0, 1) := by decide +kernel
theorem dX10_isIn_1 : decode cX10_isIn 1 = .ok (.iload_n 1, 1) := by decide +kernel
theorem dX10_isIn_2 : decode cX10_isIn 2 = .ok (.if_icmp .lt 12, 3) := by decide +kernel
theorem dX10_isIn_5 : decode cX10_isIn 5 = .ok (.iload_n 0, 1) := by decide +kernel
theorem dX10_isIn_6 : decode cX10_isIn 6 = .ok (.iload_n 2, 1) := by decide +kernel
theorem dX10_isIn_7 : decode cX10_isIn 7 = .ok (.if_icmp .gt 7, 3) := by decide +kernel
theorem dX10_isIn_10 : decode cX10_isIn 10 = .ok (.iconst 1, 1) := by decide +kernel
theorem dX10_isIn_11 : decode cX10_isIn 11 = .ok (.goto 4, 3) := by decide +kernel
theorem dX10_isIn_14 : decode cX10_isIn 14 = .ok (.iconst 0, 1) := by decide +kernel
theorem dX10_isIn_15 : decode cX10_isIn 15 = .ok (.ireturn, 1) := by decide +kernel
theorem dX10_bitOf_0 : decode cX10_bitOf 0 = .ok (.iload_n 0, 1) := by decide +kernel
theorem dX10_bitOf_1 : decode cX10_bitOf 1 = .ok (.iload_n 1, 1) := by decide +kernel
theorem dX10_bitOf_2 : decode cX10_bitOf 2 = .ok (.ishr, 1) := by decide +kernel
theorem dX10_bitOf_3 : decode cX10_bitOf 3 = .ok (.iconst 1, 1) := by decide +kernel
theorem dX10_bitOf_4 : decode cX10_bitOf 4 = .ok (.iand, 1) := by decide +kernel
theorem dX10_bitOf_5 : decode cX10_bitOf 5 = .ok (.iconst 1, 1) := by decide +kernel
theorem dX10_bitOf_6 : decode cX10_bitOf 6 = .ok (.if_icmp .ne 7, 3) := by decide +kernel
theorem dX10_bitOf_9 : decode cX10_bitOf 9 = .ok (.iconst 1, 1) := by decide +kernel
theorem dX10_bitOf_10 : decode cX10_bitOf 10 = .ok (.goto 4, 3) := by decide +kernel
theorem dX10_bitOf_13 : decode cX10_bitOf 13 = .ok (.iconst 0, 1) := by decide +kernel
theorem dX10_bitOf_14 : decode cX10_bitOf 14 = .ok (.ireturn, 1) := by decide +kernel
theorem dX10_off_0 : decode cX10_off 0 = .ok (.iload_n 0, 1) := by decide +kernel
theorem dX10_off_1 : decode cX10_off 1 = .ok (.iload_n 1, 1) := by decide +kernel
theorem dX10_off_2 : decode cX10_off 2 = .ok (.if_icmp .ge 9, 3) := by decide +kernel
theorem dX10_off_5 : decode cX10_off 5 = .ok (.iload_n 1, 1) := by decide +kernel
theorem dX10_off_6 : decode cX10_off 6 = .ok (.iload_n 0, 1) := by decide +kernel
theorem dX10_off_7 : decode cX10_off 7 = .ok (.isub, 1) := by decide +kernel
theorem dX10_off_8 : decode cX10_off 8 = .ok (.goto 6, 3) := by decide +kernel
theorem dX10_off_11 : decode cX10_off 11 = .ok (.iload_n 0, 1) := by decide +kernel
theorem dX10_off_12 : decode cX10_off 12 = .ok (.iload_n 1, 1) := by decide +kernel
theorem dX10_off_13 : decode cX10_off 13 = .ok (.isub, 1) := by decide +kernel
theorem dX10_off_14 : decode cX10_off 14 = .ok (.ireturn, 1) := by decide +kernel
theorem dX10_lesser_0 : decode cX10_lesser 0 = .ok (.iload_n 0, 1) := by decide +kernel
theorem dX10_lesser_1 : decode cX10_lesser 1 = .ok (.iload_n 1, 1) := by decide +kernel
theorem dX10_lesser_2 : decode cX10_lesser 2 = .ok (.if_icmp .ge 7, 3) := by decide +kernel
theorem dX10_lesser_5 : decode cX10_lesser 5 = .ok (.iload_n 0, 1) := by decide +kernel
theorem dX10_lesser_6 : decode cX10_lesser 6 = .ok (.goto 4, 3) := by decide +kernel
theorem dX10_lesser_9 : decode cX10_lesser 9 = .ok (.iload_n 1, 1) := by decide +kernel
theorem dX10_lesser_10 : decode cX10_lesser 10 = .ok (.ireturn, 1) := by decide +kernel
theorem dX10_bounded_0 : decode cX10_bounded 0 = .ok (.iload_n 0, 1) := by decide +kernel
theorem dX10_bounded_1 : decode cX10_bounded 1 = .ok (.bipush 10, 2) := by decide +kernel
theorem dX10_bounded_3 : decode cX10_bounded 3 = .ok (.if_icmp .ge 8, 3) := by decide +kernel
theorem dX10_bounded_6 : decode cX10_bounded 6 = .ok (.bipush 10, 2) := by decide +kernel
theorem dX10_bounded_8 : decode cX10_bounded 8 = .ok (.goto 10, 3) := by decide +kernel
theorem dX10_bounded_11 : decode cX10_bounded 11 = .ok (.iload_n 0, 1) := by decide +kernel
theorem dX10_bounded_12 : decode cX10_bounded 12 = .ok (.sipush 250, 3) := by decide +kernel
theorem dX10_bounded_15 : decode cX10_bounded 15 = .ok (.invokestatic 27, 3) := by decide +kernel
theorem dX10_bounded_18 : decode cX10_bounded 18 = .ok (.ireturn, 1) := by decide +kernel
theorem dX10_octet_0 : decode cX10_octet 0 = .ok (.aload_n 0, 1) := by decide +kernel
theorem dX10_octet_1 : decode cX10_octet 1 = .ok (.getfield 14, 3) := by decide +kernel
theorem dX10_octet_4 : decode cX10_octet 4 = .ok (.iload_n 1, 1) := by decide +kernel
theorem dX10_octet_5 : decode cX10_octet 5 = .ok (.baload, 1) := by decide +kernel
theorem dX10_octet_6 : decode cX10_octet 6 = .ok (.sipush 255, 3) := by decide +kernel
theorem dX10_octet_9 : decode cX10_octet 9 = .ok (.iand, 1) := by decide +kernel
theorem dX10_octet_10 : decode cX10_octet 10 = .ok (.ireturn, 1) := by decide +kernel
theorem dX10_init_0 : decode cX10_init 0 = .ok (.aload_n 0, 1) := by decide +kernel
theorem dX10_init_1 : decode cX10_init 1 = .ok (.invokespecial 31, 3) := by decide +kernel
theorem dX10_init_4 : decode cX10_init 4 = .ok (.aload_n 0, 1) := by decide +kernel
theorem dX10_init_5 : decode cX10_init 5 = .ok (.sipush 940, 3) := by decide +kernel
theorem dX10_init_8 : decode cX10_init 8 = .ok (.newarray .byte, 2) := by decide +kernel
theorem dX10_init_10 : decode cX10_init 10 = .ok (.putfield 14, 3) := by decide +kernel
theorem dX10_init_13 : decode cX10_init 13 = .ok (.aload_n 0, 1) := by decide +kernel
theorem dX10_init_14 : decode cX10_init 14 = .ok (.sipush 335, 3) := by decide +kernel
theorem dX10_init_17 : decode cX10_init 17 = .ok (.newarray .int, 2) := by decide +kernel
theorem dX10_init_19 : decode cX10_init 19 = .ok (.putfield 37, 3) := by decide +kernel
theorem dX10_init_22 : decode cX10_init 22 = .ok (.aload_n 0, 1) := by decide +kernel
theorem dX10_init_23 : decode cX10_init 23 = .ok (.bipush 104, 2) := by decide +kernel
theorem dX10_init_25 : decode cX10_init 25 = .ok (.newarray .int, 2) := by decide +kernel
theorem dX10_init_27 : decode cX10_init 27 = .ok (.putfield 41, 3) := by decide +kernel
theorem dX10_init_30 : decode cX10_init 30 = .ok (.aload_n 0, 1) := by decide +kernel
theorem dX10_init_31 : decode cX10_init 31 = .ok (.sipush 135, 3) := by decide +kernel
theorem dX10_init_34 : decode cX10_init 34 = .ok (.newarray .int, 2) := by decide +kernel
theorem dX10_init_36 : decode cX10_init 36 = .ok (.putfield 44, 3) := by decide +kernel
theorem dX10_init_39 : decode cX10_init 39 = .ok (.aload_n 0, 1) := by decide +kernel
theorem dX10_init_40 : decode cX10_init 40 = .ok (.bipush 36, 2) := by decide +kernel
theorem dX10_init_42 : decode cX10_init 42 = .ok (.newarray .long, 2) := by decide +kernel
theorem dX10_init_44 : decode cX10_init 44 = .ok (.putfield 47, 3) := by decide +kernel
theorem dX10_init_47 : decode cX10_init 47 = .ok (.aload_n 0, 1) := by decide +kernel
theorem dX10_init_48 : decode cX10_init 48 = .ok (.bipush 23, 2) := by decide +kernel
theorem dX10_init_50 : decode cX10_init 50 = .ok (.newarray .long, 2) := by decide +kernel
theorem dX10_init_52 : decode cX10_init 52 = .ok (.putfield 51, 3) := by decide +kernel
theorem dX10_init_55 : decode cX10_init 55 = .ok (.aload_n 0, 1) := by decide +kernel
theorem dX10_init_56 : decode cX10_init 56 = .ok (.bipush 24, 2) := by decide +kernel
theorem dX10_init_58 : decode cX10_init 58 = .ok (.newarray .int, 2) := by decide +kernel
theorem dX10_init_60 : decode cX10_init 60 = .ok (.putfield 54, 3) := by decide +kernel
theorem dX10_init_63 : decode cX10_init 63 = .ok (.aload_n 0, 1) := by decide +kernel
theorem dX10_init_64 : decode cX10_init 64 = .ok (.bipush 40, 2) := by decide +kernel
theorem dX10_init_66 : decode cX10_init 66 = .ok (.newarray .int, 2) := by decide +kernel
theorem dX10_init_68 : decode cX10_init 68 = .ok (.putfield 57, 3) := by decide +kernel
theorem dX10_init_71 : decode cX10_init 71 = .ok (.aload_n 0, 1) := by decide +kernel
theorem dX10_init_72 : decode cX10_init 72 = .ok (.iconst 4, 1) := by decide +kernel
theorem dX10_init_73 : decode cX10_init 73 = .ok (.newarray .int, 2) := by decide +kernel
theorem dX10_init_75 : decode cX10_init 75 = .ok (.putfield 60, 3) := by decide +kernel
theorem dX10_init_78 : decode cX10_init 78 = .ok (.aload_n 0, 1) := by decide +kernel
theorem dX10_init_79 : decode cX10_init 79 = .ok (.bipush 12, 2) := by decide +kernel
theorem dX10_init_81 : decode cX10_init 81 = .ok (.newarray .int, 2) := by decide +kernel
theorem dX10_init_83 : decode cX10_init 83 = .ok (.putfield 63, 3) := by decide +kernel
theorem dX10_init_86 : decode cX10_init 86 = .ok (.aload_n 0, 1) := by decide +kernel
theorem dX10_init_87 : decode cX10_init 87 = .ok (.iconst (-1), 1) := by decide +kernel
theorem dX10_init_88 : decode cX10_init 88 = .ok (.putfield 66, 3) := by decide +kernel
theorem dX10_init_91 : decode cX10_init 91 = .ok (.aload_n 0, 1) := by decide +kernel
theorem dX10_init_92 : decode cX10_init 92 = .ok (.sipush 192, 3) := by decide +kernel
theorem dX10_init_95 : decode cX10_init 95 = .ok (.newarray .int, 2) := by decide +kernel
theorem dX10_init_97 : decode cX10_init 97 = .ok (.putfield 69, 3) := by decide +kernel
theorem dX10_init_100 : decode cX10_init 100 = .ok (.aload_n 0, 1) := by decide +kernel
theorem dX10_init_101 : decode cX10_init 101 = .ok (.bipush 24, 2) := by decide +kernel
theorem dX10_init_103 : decode cX10_init 103 = .ok (.newarray .int, 2) := by decide +kernel
theorem dX10_init_105 : decode cX10_init 105 = .ok (.putfield 72, 3) := by decide +kernel
theorem dX10_init_108 : decode cX10_init 108 = .ok (.aload_n 0, 1) := by decide +kernel
theorem dX10_init_109 : decode cX10_init 109 = .ok (.ldc 75, 2) := by decide +kernel
theorem dX10_init_111 : decode cX10_init 111 = .ok (.newarray .int, 2) := by decide +kernel
theorem dX10_init_113 : decode cX10_init 113 = .ok (.putfield 76, 3) := by decide +kernel
theorem dX10_init_116 : decode cX10_init 116 = .ok (.aload_n 0, 1) := by decide +kernel
theorem dX10_init_117 : decode cX10_init 117 = .ok (.iconst 4, 1) := by decide +kernel
theorem dX10_init_118 : decode cX10_init 118 = .ok (.newarray .int, 2) := by decide +kernel
theorem dX10_init_120 : decode cX10_init 120 = .ok (.putfield 79, 3) := by decide +kernel
theorem dX10_init_123 : decode cX10_init 123 = .ok (.aload_n 0, 1) := by decide +kernel
theorem dX10_init_124 : decode cX10_init 124 = .ok (.iconst 4, 1) := by decide +kernel
theorem dX10_init_125 : decode cX10_init 125 = .ok (.newarray .int, 2) := by decide +kernel
theorem dX10_init_127 : decode cX10_init 127 = .ok (.putfield 82, 3) := by decide +kernel
theorem dX10_init_130 : decode cX10_init 130 = .ok (.aload_n 0, 1) := by decide +kernel
theorem dX10_init_131 : decode cX10_init 131 = .ok (.iconst (-1), 1) := by decide +kernel
theorem dX10_init_132 : decode cX10_init 132 = .ok (.putfield 85, 3) := by decide +kernel
theorem dX10_init_135 : decode cX10_init 135 = .ok (.aload_n 0, 1) := by decide +kernel
theorem dX10_init_136 : decode cX10_init 136 = .ok (.ldc 88, 2) := by decide +kernel
theorem dX10_init_138 : decode cX10_init 138 = .ok (.newarray .int, 2) := by decide +kernel
theorem dX10_init_140 : decode cX10_init 140 = .ok (.putfield 89, 3) := by decide +kernel
theorem dX10_init_143 : decode cX10_init 143 = .ok (.aload_n 0, 1) := by decide +kernel
theorem dX10_init_144 : decode cX10_init 144 = .ok (.ldc 88, 2) := by decide +kernel
theorem dX10_init_146 : decode cX10_init 146 = .ok (.newarray .int, 2) := by decide +kernel
theorem dX10_init_148 : decode cX10_init 148 = .ok (.putfield 92, 3) := by decide +kernel
theorem dX10_init_151 : decode cX10_init 151 = .ok (.aload_n 0, 1) := by decide +kernel
theorem dX10_init_152 : decode cX10_init 152 = .ok (.sipush 31330, 3) := by decide +kernel
theorem dX10_init_155 : decode cX10_init 155 = .ok (.newarray .int, 2) := by decide +kernel
theorem dX10_init_157 : decode cX10_init 157 = .ok (.putfield 95, 3) := by decide +kernel
theorem dX10_init_160 : decode cX10_init 160 = .ok (.aload_n 0, 1) := by decide +kernel
theorem dX10_init_161 : decode cX10_init 161 = .ok (.bipush 12, 2) := by decide +kernel
theorem dX10_init_163 : decode cX10_init 163 = .ok (.newarray .int, 2) := by decide +kernel
theorem dX10_init_165 : decode cX10_init 165 = .ok (.putfield 98, 3) := by decide +kernel
theorem dX10_init_168 : decode cX10_init 168 = .ok (.aload_n 0, 1) := by decide +kernel
theorem dX10_init_169 : decode cX10_init 169 = .ok (.iconst (-1), 1) := by decide +kernel
theorem dX10_init_170 : decode cX10_init 170 = .ok (.putfield 101, 3) := by decide +kernel
theorem dX10_init_173 : decode cX10_init 173 = .ok (.aload_n 0, 1) := by decide +kernel
theorem dX10_init_174 : decode cX10_init 174 = .ok (.bipush 45, 2) := by decide +kernel
theorem dX10_init_176 : decode cX10_init 176 = .ok (.newarray .int, 2) := by decide +kernel
theorem dX10_init_178 : decode cX10_init 178 = .ok (.putfield 104, 3) := by decide +kernel
theorem dX10_init_181 : decode cX10_init 181 = .ok (.aload_n 0, 1) := by decide +kernel
theorem dX10_init_182 : decode cX10_init 182 = .ok (.bipush 45, 2) := by decide +kernel
theorem dX10_init_184 : decode cX10_init 184 = .ok (.newarray .boolean, 2) := by decide +kernel
theorem dX10_init_186 : decode cX10_init 186 = .ok (.putfield 107, 3) := by decide +kernel
theorem dX10_init_189 : decode cX10_init 189 = .ok (.aload_n 0, 1) := by decide +kernel
theorem dX10_init_190 : decode cX10_init 190 = .ok (.sipush 670, 3) := by decide +kernel
theorem dX10_init_193 : decode cX10_init 193 = .ok (.newarray .int, 2) := by decide +kernel
theorem dX10_init_195 : decode cX10_init 195 = .ok (.putfield 111, 3) := by decide +kernel
theorem dX10_init_198 : decode cX10_init 198 = .ok (.aload_n 0, 1) := by decide +kernel
theorem dX10_init_199 : decode cX10_init 199 = .ok (.bipush 36, 2) := by decide +kernel
theorem dX10_init_201 : decode cX10_init 201 = .ok (.newarray .long, 2) := by decide +kernel
theorem dX10_init_203 : decode cX10_init 203 = .ok (.putfield 114, 3) := by decide +kernel
theorem dX10_init_206 : decode cX10_init 206 = .ok (.aload_n 0, 1) := by decide +kernel
theorem dX10_init_207 : decode cX10_init 207 = .ok (.iconst 2, 1) := by decide +kernel
theorem dX10_init_208 : decode cX10_init 208 = .ok (.newarray .boolean, 2) := by decide +kernel
theorem dX10_init_210 : decode cX10_init 210 = .ok (.putfield 117, 3) := by decide +kernel
theorem dX10_init_213 : decode cX10_init 213 = .ok (.aload_n 0, 1) := by decide +kernel
theorem dX10_init_214 : decode cX10_init 214 = .ok (.getfield 51, 3) := by decide +kernel
theorem dX10_init_217 : decode cX10_init 217 = .ok (.iconst 0, 1) := by decide +kernel
theorem dX10_init_218 : decode cX10_init 218 = .ok (.ldc2_w 120, 3) := by decide +kernel
theorem dX10_init_221 : decode cX10_init 221 = .ok (.lastore, 1) := by decide +kernel
theorem dX10_init_222 : decode cX10_init 222 = .ok (.aload_n 0, 1) := by decide +kernel
theorem dX10_init_223 : decode cX10_init 223 = .ok (.getfield 51, 3) := by decide +kernel
theorem dX10_init_226 : decode cX10_init 226 = .ok (.iconst 1, 1) := by decide +kernel
theorem dX10_init_227 : decode cX10_init 227 = .ok (.ldc2_w 122, 3) := by decide +kernel
theorem dX10_init_230 : decode cX10_init 230 = .ok (.lastore, 1) := by decide +kernel
theorem dX10_init_231 : decode cX10_init 231 = .ok (.aload_n 0, 1) := by decide +kernel
theorem dX10_init_232 : decode cX10_init 232 = .ok (.getfield 51, 3) := by decide +kernel
theorem dX10_init_235 : decode cX10_init 235 = .ok (.iconst 2, 1) := by decide +kernel
theorem dX10_init_236 : decode cX10_init 236 = .ok (.ldc2_w 124, 3) := by decide +kernel
theorem dX10_init_239 : decode cX10_init 239 = .ok (.lastore, 1) := by decide +kernel
theorem dX10_init_240 : decode cX10_init 240 = .ok (.aload_n 0, 1) := by decide +kernel
theorem dX10_init_241 : decode cX10_init 241 = .ok (.getfield 51, 3) := by decide +kernel
theorem dX10_init_244 : decode cX10_init 244 = .ok (.iconst 3, 1) := by decide +kernel
theorem dX10_init_245 : decode cX10_init 245 = .ok (.ldc2_w 126, 3) := by decide +kernel
theorem dX10_init_248 : decode cX10_init 248 = .ok (.lastore, 1) := by decide +kernel
theorem dX10_init_249 : decode cX10_init 249 = .ok (.aload_n 0, 1) := by decide +kernel
theorem dX10_init_250 : decode cX10_init 250 = .ok (.getfield 51, 3) := by decide +kernel
theorem dX10_init_253 : decode cX10_init 253 = .ok (.iconst 4, 1) := by decide +kernel
theorem dX10_init_254 : decode cX10_init 254 = .ok (.ldc2_w 128, 3) := by decide +kernel
theorem dX10_init_257 : decode cX10_init 257 = .ok (.lastore, 1) := by decide +kernel
theorem dX10_init_258 : decode cX10_init 258 = .ok (.aload_n 0, 1) := by decide +kernel
theorem dX10_init_259 : decode cX10_init 259 = .ok (.getfield 51, 3) := by decide +kernel
theorem dX10_init_262 : decode cX10_init 262 = .ok (.iconst 5, 1) := by decide +kernel
theorem dX10_init_263 : decode cX10_init 263 = .ok (.ldc2_w 130, 3) := by decide +kernel
theorem dX10_init_266 : decode cX10_init 266 = .ok (.lastore, 1) := by decide +kernel
theorem dX10_init_267 : decode cX10_init 267 = .ok (.aload_n 0, 1) := by decide +kernel
theorem dX10_init_268 : decode cX10_init 268 = .ok (.getfield 51, 3) := by decide +kernel
theorem dX10_init_271 : decode cX10_init 271 = .ok (.bipush 6, 2) := by decide +kernel
theorem dX10_init_273 : decode cX10_init 273 = .ok (.ldc2_w 132, 3) := by decide +kernel
theorem dX10_init_276 : decode cX10_init 276 = .ok (.lastore, 1) := by decide +kernel
theorem dX10_init_277 : decode cX10_init 277 = .ok (.aload_n 0, 1) := by decide +kernel
theorem dX10_init_278 : decode cX10_init 278 = .ok (.getfield 51, 3) := by decide +kernel
theorem dX10_init_281 : decode cX10_init 281 = .ok (.bipush 7, 2) := by decide +kernel
theorem dX10_init_283 : decode cX10_init 283 = .ok (.ldc2_w 134, 3) := by decide +kernel
theorem dX10_init_286 : decode cX10_init 286 = .ok (.lastore, 1) := by decide +kernel
theorem dX10_init_287 : decode cX10_init 287 = .ok (.aload_n 0, 1) := by decide +kernel
theorem dX10_init_288 : decode cX10_init 288 = .ok (.getfield 51, 3) := by decide +kernel
theorem dX10_init_291 : decode cX10_init 291 = .ok (.bipush 8, 2) := by decide +kernel
theorem dX10_init_293 : decode cX10_init 293 = .ok (.ldc2_w 136, 3) := by decide +kernel
theorem dX10_init_296 : decode cX10_init 296 = .ok (.lastore, 1) := by decide +kernel
theorem dX10_init_297 : decode cX10_init 297 = .ok (.aload_n 0, 1) := by decide +kernel
theorem dX10_init_298 : decode cX10_init 298 = .ok (.getfield 51, 3) := by decide +kernel
theorem dX10_init_301 : decode cX10_init 301 = .ok (.bipush 9, 2) := by decide +kernel
theorem dX10_init_303 : decode cX10_init 303 = .ok (.ldc2_w 138, 3) := by decide +kernel
theorem dX10_init_306 : decode cX10_init 306 = .ok (.lastore, 1) := by decide +kernel
theorem dX10_init_307 : decode cX10_init 307 = .ok (.aload_n 0, 1) := by decide +kernel
theorem dX10_init_308 : decode cX10_init 308 = .ok (.getfield 51, 3) := by decide +kernel
theorem dX10_init_311 : decode cX10_init 311 = .ok (.bipush 10, 2) := by decide +kernel
theorem dX10_init_313 : decode cX10_init 313 = .ok (.ldc2_w 140, 3) := by decide +kernel
theorem dX10_init_316 : decode cX10_init 316 = .ok (.lastore, 1) := by decide +kernel
theorem dX10_init_317 : decode cX10_init 317 = .ok (.aload_n 0, 1) := by decide +kernel
theorem dX10_init_318 : decode cX10_init 318 = .ok (.getfield 51, 3) := by decide +kernel
theorem dX10_init_321 : decode cX10_init 321 = .ok (.bipush 11, 2) := by decide +kernel
theorem dX10_init_323 : decode cX10_init 323 = .ok (.ldc2_w 142, 3) := by decide +kernel
theorem dX10_init_326 : decode cX10_init 326 = .ok (.lastore, 1) := by decide +kernel
theorem dX10_init_327 : decode cX10_init 327 = .ok (.aload_n 0, 1) := by decide +kernel
theorem dX10_init_328 : decode cX10_init 328 = .ok (.getfield 51, 3) := by decide +kernel
theorem dX10_init_331 : decode cX10_init 331 = .ok (.bipush 12, 2) := by decide +kernel
theorem dX10_init_333 : decode cX10_init 333 = .ok (.ldc2_w 144, 3) := by decide +kernel
theorem dX10_init_336 : decode cX10_init 336 = .ok (.lastore, 1) := by decide +kernel
theorem dX10_init_337 : decode cX10_init 337 = .ok (.aload_n 0, 1) := by decide +kernel
theorem dX10_init_338 : decode cX10_init 338 = .ok (.getfield 51, 3) := by decide +kernel
theorem dX10_init_341 : decode cX10_init 341 = .ok (.bipush 13, 2) := by decide +kernel
theorem dX10_init_343 : decode cX10_init 343 = .ok (.ldc2_w 146, 3) := by decide +kernel
theorem dX10_init_346 : decode cX10_init 346 = .ok (.lastore, 1) := by decide +kernel
theorem dX10_init_347 : decode cX10_init 347 = .ok (.aload_n 0, 1) := by decide +kernel
theorem dX10_init_348 : decode cX10_init 348 = .ok (.getfield 51, 3) := by decide +kernel
theorem dX10_init_351 : decode cX10_init 351 = .ok (.bipush 14, 2) := by decide +kernel
theorem dX10_init_353 : decode cX10_init 353 = .ok (.ldc2_w 148, 3) := by decide +kernel
theorem dX10_init_356 : decode cX10_init 356 = .ok (.lastore, 1) := by decide +kernel
theorem dX10_init_357 : decode cX10_init 357 = .ok (.aload_n 0, 1) := by decide +kernel
theorem dX10_init_358 : decode cX10_init 358 = .ok (.getfield 51, 3) := by decide +kernel
theorem dX10_init_361 : decode cX10_init 361 = .ok (.bipush 15, 2) := by decide +kernel
theorem dX10_init_363 : decode cX10_init 363 = .ok (.ldc2_w 150, 3) := by decide +kernel
theorem dX10_init_366 : decode cX10_init 366 = .ok (.lastore, 1) := by decide +kernel
theorem dX10_init_367 : decode cX10_init 367 = .ok (.aload_n 0, 1) := by decide +kernel
theorem dX10_init_368 : decode cX10_init 368 = .ok (.getfield 51, 3) := by decide +kernel
theorem dX10_init_371 : decode cX10_init 371 = .ok (.bipush 16, 2) := by decide +kernel
theorem dX10_init_373 : decode cX10_init 373 = .ok (.ldc2_w 152, 3) := by decide +kernel
theorem dX10_init_376 : decode cX10_init 376 = .ok (.lastore, 1) := by decide +kernel
theorem dX10_init_377 : decode cX10_init 377 = .ok (.aload_n 0, 1) := by decide +kernel
theorem dX10_init_378 : decode cX10_init 378 = .ok (.getfield 51, 3) := by decide +kernel
theorem dX10_init_381 : decode cX10_init 381 = .ok (.bipush 17, 2) := by decide +kernel
theorem dX10_init_383 : decode cX10_init 383 = .ok (.ldc2_w 154, 3) := by decide +kernel
theorem dX10_init_386 : decode cX10_init 386 = .ok (.lastore, 1) := by decide +kernel
theorem dX10_init_387 : decode cX10_init 387 = .ok (.aload_n 0, 1) := by decide +kernel
theorem dX10_init_388 : decode cX10_init 388 = .ok (.getfield 51, 3) := by decide +kernel
theorem dX10_init_391 : decode cX10_init 391 = .ok (.bipush 18, 2) := by decide +kernel
theorem dX10_init_393 : decode cX10_init 393 = .ok (.ldc2_w 156, 3) := by decide +kernel
theorem dX10_init_396 : decode cX10_init 396 = .ok (.lastore, 1) := by decide +kernel
theorem dX10_init_397 : decode cX10_init 397 = .ok (.aload_n 0, 1) := by decide +kernel
theorem dX10_init_398 : decode cX10_init 398 = .ok (.getfield 51, 3) := by decide +kernel
theorem dX10_init_401 : decode cX10_init 401 = .ok (.bipush 19, 2) := by decide +kernel
theorem dX10_init_403 : decode cX10_init 403 = .ok (.ldc2_w 158, 3) := by decide +kernel
theorem dX10_init_406 : decode cX10_init 406 = .ok (.lastore, 1) := by decide +kernel
theorem dX10_init_407 : decode cX10_init 407 = .ok (.aload_n 0, 1) := by decide +kernel
theorem dX10_init_408 : decode cX10_init 408 = .ok (.getfield 51, 3) := by decide +kernel
theorem dX10_init_411 : decode cX10_init 411 = .ok (.bipush 20, 2) := by decide +kernel
theorem dX10_init_413 : decode cX10_init 413 = .ok (.ldc2_w 160, 3) := by decide +kernel
theorem dX10_init_416 : decode cX10_init 416 = .ok (.lastore, 1) := by decide +kernel
theorem dX10_init_417 : decode cX10_init 417 = .ok (.aload_n 0, 1) := by decide +kernel
theorem dX10_init_418 : decode cX10_init 418 = .ok (.getfield 51, 3) := by decide +kernel
theorem dX10_init_421 : decode cX10_init 421 = .ok (.bipush 21, 2) := by decide +kernel
theorem dX10_init_423 : decode cX10_init 423 = .ok (.ldc2_w 162, 3) := by decide +kernel
theorem dX10_init_426 : decode cX10_init 426 = .ok (.lastore, 1) := by decide +kernel
theorem dX10_init_427 : decode cX10_init 427 = .ok (.aload_n 0, 1) := by decide +kernel
theorem dX10_init_428 : decode cX10_init 428 = .ok (.getfield 51, 3) := by decide +kernel
theorem dX10_init_431 : decode cX10_init 431 = .ok (.bipush 22, 2) := by decide +kernel
theorem dX10_init_433 : decode cX10_init 433 = .ok (.ldc2_w 164, 3) := by decide +kernel
theorem dX10_init_436 : decode cX10_init 436 = .ok (.lastore, 1) := by decide +kernel
theorem dX10_init_437 : decode cX10_init 437 = .ok (.aload_n 0, 1) := by decide +kernel
theorem dX10_init_438 : decode cX10_init 438 = .ok (.invokevirtual 166, 3) := by decide +kernel
theorem dX10_init_441 : decode cX10_init 441 = .ok (.iconst 0, 1) := by decide +kernel
theorem dX10_init_442 : decode cX10_init 442 = .ok (.istore_n 1, 1) := by decide +kernel
theorem dX10_init_443 : decode cX10_init 443 = .ok (.iload_n 1, 1) := by decide +kernel
theorem dX10_init_444 : decode cX10_init 444 = .ok (.bipush 104, 2) := by decide +kernel
theorem dX10_init_446 : decode cX10_init 446 = .ok (.if_icmp .ge 21, 3) := by decide +kernel
theorem dX10_init_449 : decode cX10_init 449 = .ok (.aload_n 0, 1) := by decide +kernel
theorem dX10_init_450 : decode cX10_init 450 = .ok (.getfield 37, 3) := by decide +kernel
theorem dX10_init_453 : decode cX10_init 453 = .ok (.iload_n 1, 1) := by decide +kernel
theorem dX10_init_454 : decode cX10_init 454 = .ok (.aload_n 0, 1) := by decide +kernel
theorem dX10_init_455 : decode cX10_init 455 = .ok (.getfield 41, 3) := by decide +kernel
theorem dX10_init_458 : decode cX10_init 458 = .ok (.iload_n 1, 1) := by decide +kernel
theorem dX10_init_459 : decode cX10_init 459 = .ok (.iaload, 1) := by decide +kernel
theorem dX10_init_460 : decode cX10_init 460 = .ok (.iastore, 1) := by decide +kernel
theorem dX10_init_461 : decode cX10_init 461 = .ok (.iinc 1 1, 3) := by decide +kernel
theorem dX10_init_464 : decode cX10_init 464 = .ok (.goto (-21), 3) := by decide +kernel
theorem dX10_init_467 : decode cX10_init 467 = .ok (.aload_n 0, 1) := by decide +kernel
theorem dX10_init_468 : decode cX10_init 468 = .ok (.getfield 37, 3) := by decide +kernel
theorem dX10_init_471 : decode cX10_init 471 = .ok (.bipush 115, 2) := by decide +kernel
theorem dX10_init_473 : decode cX10_init 473 = .ok (.iconst 1, 1) := by decide +kernel
theorem dX10_init_474 : decode cX10_init 474 = .ok (.iastore, 1) := by decide +kernel
theorem dX10_init_475 : decode cX10_init 475 = .ok (.return_, 1) := by decide +kernel
theorem dX10_clears_0 : decode cX10_clears 0 = .ok (.iconst 0, 1) := by decide +kernel
theorem dX10_clears_1 : decode cX10_clears 1 = .ok (.istore_n 1, 1) := by decide +kernel
theorem dX10_clears_2 : decode cX10_clears 2 = .ok (.iload_n 1, 1) := by decide +kernel
theorem dX10_clears_3 : decode cX10_clears 3 = .ok (.bipush 104, 2) := by decide +kernel
theorem dX10_clears_5 : decode cX10_clears 5 = .ok (.if_icmp .ge 16, 3) := by decide +kernel
theorem dX10_clears_8 : decode cX10_clears 8 = .ok (.aload_n 0, 1) := by decide +kernel
theorem dX10_clears_9 : decode cX10_clears 9 = .ok (.getfield 41, 3) := by decide +kernel
theorem dX10_clears_12 : decode cX10_clears 12 = .ok (.iload_n 1, 1) := by decide +kernel
theorem dX10_clears_13 : decode cX10_clears 13 = .ok (.iconst 0, 1) := by decide +kernel
theorem dX10_clears_14 : decode cX10_clears 14 = .ok (.iastore, 1) := by decide +kernel
theorem dX10_clears_15 : decode cX10_clears 15 = .ok (.iinc 1 1, 3) := by decide +kernel
theorem dX10_clears_18 : decode cX10_clears 18 = .ok (.goto (-16), 3) := by decide +kernel
theorem dX10_clears_21 : decode cX10_clears 21 = .ok (.aload_n 0, 1) := by decide +kernel
theorem dX10_clears_22 : decode cX10_clears 22 = .ok (.getfield 41, 3) := by decide +kernel
theorem dX10_clears_25 : decode cX10_clears 25 = .ok (.iconst 0, 1) := by decide +kernel
theorem dX10_clears_26 : decode cX10_clears 26 = .ok (.bipush 40, 2) := by decide +kernel
theorem dX10_clears_28 : decode cX10_clears 28 = .ok (.iastore, 1) := by decide +kernel
theorem dX10_clears_29 : decode cX10_clears 29 = .ok (.aload_n 0, 1) := by decide +kernel
theorem dX10_clears_30 : decode cX10_clears 30 = .ok (.getfield 41, 3) := by decide +kernel
theorem dX10_clears_33 : decode cX10_clears 33 = .ok (.iconst 1, 1) := by decide +kernel
theorem dX10_clears_34 : decode cX10_clears 34 = .ok (.sipush 210, 3) := by decide +kernel
theorem dX10_clears_37 : decode cX10_clears 37 = .ok (.iastore, 1) := by decide +kernel
theorem dX10_clears_38 : decode cX10_clears 38 = .ok (.aload_n 0, 1) := by decide +kernel
theorem dX10_clears_39 : decode cX10_clears 39 = .ok (.getfield 41, 3) := by decide +kernel
theorem dX10_clears_42 : decode cX10_clears 42 = .ok (.iconst 2, 1) := by decide +kernel
theorem dX10_clears_43 : decode cX10_clears 43 = .ok (.sipush 630, 3) := by decide +kernel
theorem dX10_clears_46 : decode cX10_clears 46 = .ok (.iastore, 1) := by decide +kernel
theorem dX10_clears_47 : decode cX10_clears 47 = .ok (.aload_n 0, 1) := by decide +kernel
theorem dX10_clears_48 : decode cX10_clears 48 = .ok (.getfield 41, 3) := by decide +kernel
theorem dX10_clears_51 : decode cX10_clears 51 = .ok (.iconst 3, 1) := by decide +kernel
theorem dX10_clears_52 : decode cX10_clears 52 = .ok (.iconst 2, 1) := by decide +kernel
theorem dX10_clears_53 : decode cX10_clears 53 = .ok (.iastore, 1) := by decide +kernel
theorem dX10_clears_54 : decode cX10_clears 54 = .ok (.aload_n 0, 1) := by decide +kernel
theorem dX10_clears_55 : decode cX10_clears 55 = .ok (.getfield 41, 3) := by decide +kernel
theorem dX10_clears_58 : decode cX10_clears 58 = .ok (.iconst 4, 1) := by decide +kernel
theorem dX10_clears_59 : decode cX10_clears 59 = .ok (.iconst 5, 1) := by decide +kernel
theorem dX10_clears_60 : decode cX10_clears 60 = .ok (.iastore, 1) := by decide +kernel
theorem dX10_clears_61 : decode cX10_clears 61 = .ok (.return_, 1) := by decide +kernel
theorem dX10_peek_0 : decode cX10_peek 0 = .ok (.aload_n 0, 1) := by decide +kernel
theorem dX10_peek_1 : decode cX10_peek 1 = .ok (.getfield 21, 3) := by decide +kernel
theorem dX10_peek_4 : decode cX10_peek 4 = .ok (.aload_n 0, 1) := by decide +kernel
theorem dX10_peek_5 : decode cX10_peek 5 = .ok (.getfield 18, 3) := by decide +kernel
theorem dX10_peek_8 : decode cX10_peek 8 = .ok (.if_icmp .ge 19, 3) := by decide +kernel
theorem dX10_peek_11 : decode cX10_peek 11 = .ok (.aload_n 0, 1) := by decide +kernel
theorem dX10_peek_12 : decode cX10_peek 12 = .ok (.getfield 14, 3) := by decide +kernel
theorem dX10_peek_15 : decode cX10_peek 15 = .ok (.aload_n 0, 1) := by decide +kernel
theorem dX10_peek_16 : decode cX10_peek 16 = .ok (.getfield 21, 3) := by decide +kernel
theorem dX10_peek_19 : decode cX10_peek 19 = .ok (.baload, 1) := by decide +kernel
theorem dX10_peek_20 : decode cX10_peek 20 = .ok (.sipush 255, 3) := by decide +kernel
theorem dX10_peek_23 : decode cX10_peek 23 = .ok (.iand, 1) := by decide +kernel
theorem dX10_peek_24 : decode cX10_peek 24 = .ok (.goto 4, 3) := by decide +kernel
theorem dX10_peek_27 : decode cX10_peek 27 = .ok (.iconst (-1), 1) := by decide +kernel
theorem dX10_peek_28 : decode cX10_peek 28 = .ok (.ireturn, 1) := by decide +kernel
theorem dX10_isSmall_0 : decode cX10_isSmall 0 = .ok (.iload_n 0, 1) := by decide +kernel
theorem dX10_isSmall_1 : decode cX10_isSmall 1 = .ok (.bipush 97, 2) := by decide +kernel
theorem dX10_isSmall_3 : decode cX10_isSmall 3 = .ok (.if_icmp .lt 13, 3) := by decide +kernel
theorem dX10_isSmall_6 : decode cX10_isSmall 6 = .ok (.iload_n 0, 1) := by decide +kernel
theorem dX10_isSmall_7 : decode cX10_isSmall 7 = .ok (.bipush 122, 2) := by decide +kernel
theorem dX10_isSmall_9 : decode cX10_isSmall 9 = .ok (.if_icmp .gt 7, 3) := by decide +kernel
theorem dX10_isSmall_12 : decode cX10_isSmall 12 = .ok (.iconst 1, 1) := by decide +kernel
theorem dX10_isSmall_13 : decode cX10_isSmall 13 = .ok (.goto 4, 3) := by decide +kernel
theorem dX10_isSmall_16 : decode cX10_isSmall 16 = .ok (.iconst 0, 1) := by decide +kernel
theorem dX10_isSmall_17 : decode cX10_isSmall 17 = .ok (.ireturn, 1) := by decide +kernel
theorem dX10_isDigit_0 : decode cX10_isDigit 0 = .ok (.iload_n 0, 1) := by decide +kernel
theorem dX10_isDigit_1 : decode cX10_isDigit 1 = .ok (.bipush 48, 2) := by decide +kernel
theorem dX10_isDigit_3 : decode cX10_isDigit 3 = .ok (.if_icmp .lt 13, 3) := by decide +kernel
theorem dX10_isDigit_6 : decode cX10_isDigit 6 = .ok (.iload_n 0, 1) := by decide +kernel
theorem dX10_isDigit_7 : decode cX10_isDigit 7 = .ok (.bipush 57, 2) := by decide +kernel
theorem dX10_isDigit_9 : decode cX10_isDigit 9 = .ok (.if_icmp .gt 7, 3) := by decide +kernel
theorem dX10_isDigit_12 : decode cX10_isDigit 12 = .ok (.iconst 1, 1) := by decide +kernel
theorem dX10_isDigit_13 : decode cX10_isDigit 13 = .ok (.goto 4, 3) := by decide +kernel
theorem dX10_isDigit_16 : decode cX10_isDigit 16 = .ok (.iconst 0, 1) := by decide +kernel
theorem dX10_isDigit_17 : decode cX10_isDigit 17 = .ok (.ireturn, 1) := by decide +kernel
theorem dX10_next_0 : decode cX10_next 0 = .ok (.aload_n 0, 1) := by decide +kernel
theorem dX10_next_1 : decode cX10_next 1 = .ok (.invokevirtual 169, 3) := by decide +kernel
theorem dX10_next_4 : decode cX10_next 4 = .ok (.bipush 32, 2) := by decide +kernel
theorem dX10_next_6 : decode cX10_next 6 = .ok (.if_icmp .eq 12, 3) := by decide +kernel
theorem dX10_next_9 : decode cX10_next 9 = .ok (.aload_n 0, 1) := by decide +kernel
theorem dX10_next_10 : decode cX10_next 10 = .ok (.invokevirtual 169, 3) := by decide +kernel
theorem dX10_next_13 : decode cX10_next 13 = .ok (.bipush 10, 2) := by decide +kernel
theorem dX10_next_15 : decode cX10_next 15 = .ok (.if_icmp .ne 16, 3) := by decide +kernel
theorem dX10_next_18 : decode cX10_next 18 = .ok (.aload_n 0, 1) := by decide +kernel
theorem dX10_next_19 : decode cX10_next 19 = .ok (.dup, 1) := by decide +kernel
theorem dX10_next_20 : decode cX10_next 20 = .ok (.getfield 21, 3) := by decide +kernel
theorem dX10_next_23 : decode cX10_next 23 = .ok (.iconst 1, 1) := by decide +kernel
theorem dX10_next_24 : decode cX10_next 24 = .ok (.iadd, 1) := by decide +kernel
theorem dX10_next_25 : decode cX10_next 25 = .ok (.putfield 21, 3) := by decide +kernel
theorem dX10_next_28 : decode cX10_next 28 = .ok (.goto (-28), 3) := by decide +kernel
theorem dX10_next_31 : decode cX10_next 31 = .ok (.aload_n 0, 1) := by decide +kernel
theorem dX10_next_32 : decode cX10_next 32 = .ok (.aload_n 0, 1) := by decide +kernel
theorem dX10_next_33 : decode cX10_next 33 = .ok (.getfield 21, 3) := by decide +kernel
theorem dX10_next_36 : decode cX10_next 36 = .ok (.putfield 173, 3) := by decide +kernel
theorem dX10_next_39 : decode cX10_next 39 = .ok (.aload_n 0, 1) := by decide +kernel
theorem dX10_next_40 : decode cX10_next 40 = .ok (.iconst 0, 1) := by decide +kernel
theorem dX10_next_41 : decode cX10_next 41 = .ok (.putfield 176, 3) := by decide +kernel
theorem dX10_next_44 : decode cX10_next 44 = .ok (.aload_n 0, 1) := by decide +kernel
theorem dX10_next_45 : decode cX10_next 45 = .ok (.getfield 18, 3) := by decide +kernel
theorem dX10_next_48 : decode cX10_next 48 = .ok (.aload_n 0, 1) := by decide +kernel
theorem dX10_next_49 : decode cX10_next 49 = .ok (.getfield 24, 3) := by decide +kernel
theorem dX10_next_52 : decode cX10_next 52 = .ok (.if_icmp .le 28, 3) := by decide +kernel
theorem dX10_next_55 : decode cX10_next 55 = .ok (.aload_n 0, 1) := by decide +kernel
theorem dX10_next_56 : decode cX10_next 56 = .ok (.getfield 21, 3) := by decide +kernel
theorem dX10_next_59 : decode cX10_next 59 = .ok (.aload_n 0, 1) := by decide +kernel
theorem dX10_next_60 : decode cX10_next 60 = .ok (.getfield 24, 3) := by decide +kernel
theorem dX10_next_63 : decode cX10_next 63 = .ok (.if_icmp .lt 17, 3) := by decide +kernel
theorem dX10_next_66 : decode cX10_next 66 = .ok (.aload_n 0, 1) := by decide +kernel
theorem dX10_next_67 : decode cX10_next 67 = .ok (.aload_n 0, 1) := by decide +kernel
theorem dX10_next_68 : decode cX10_next 68 = .ok (.getfield 24, 3) := by decide +kernel
theorem dX10_next_71 : decode cX10_next 71 = .ok (.putfield 173, 3) := by decide +kernel
theorem dX10_next_74 : decode cX10_next 74 = .ok (.aload_n 0, 1) := by decide +kernel
theorem dX10_next_75 : decode cX10_next 75 = .ok (.iconst 4, 1) := by decide +kernel
theorem dX10_next_76 : decode cX10_next 76 = .ok (.putfield 179, 3) := by decide +kernel
theorem dX10_next_79 : decode cX10_next 79 = .ok (.return_, 1) := by decide +kernel
theorem dX10_next_80 : decode cX10_next 80 = .ok (.aload_n 0, 1) := by decide +kernel
theorem dX10_next_81 : decode cX10_next 81 = .ok (.invokevirtual 169, 3) := by decide +kernel
theorem dX10_next_84 : decode cX10_next 84 = .ok (.istore_n 1, 1) := by decide +kernel
theorem dX10_next_85 : decode cX10_next 85 = .ok (.iload_n 1, 1) := by decide +kernel
theorem dX10_next_86 : decode cX10_next 86 = .ok (.ifCond .ge 9, 3) := by decide +kernel
theorem dX10_next_89 : decode cX10_next 89 = .ok (.aload_n 0, 1) := by decide +kernel
theorem dX10_next_90 : decode cX10_next 90 = .ok (.iconst 0, 1) := by decide +kernel
theorem dX10_next_91 : decode cX10_next 91 = .ok (.putfield 179, 3) := by decide +kernel
theorem dX10_next_94 : decode cX10_next 94 = .ok (.return_, 1) := by decide +kernel
theorem dX10_next_95 : decode cX10_next 95 = .ok (.iload_n 1, 1) := by decide +kernel
theorem dX10_next_96 : decode cX10_next 96 = .ok (.invokestatic 182, 3) := by decide +kernel
theorem dX10_next_99 : decode cX10_next 99 = .ok (.ifCond .ne 65, 3) := by decide +kernel
theorem dX10_next_102 : decode cX10_next 102 = .ok (.iload_n 1, 1) := by decide +kernel
theorem dX10_next_103 : decode cX10_next 103 = .ok (.invokestatic 186, 3) := by decide +kernel
theorem dX10_next_106 : decode cX10_next 106 = .ok (.ifCond .ne 58, 3) := by decide +kernel
theorem dX10_next_109 : decode cX10_next 109 = .ok (.aload_n 0, 1) := by decide +kernel
theorem dX10_next_110 : decode cX10_next 110 = .ok (.iload_n 1, 1) := by decide +kernel
theorem dX10_next_111 : decode cX10_next 111 = .ok (.bipush 59, 2) := by decide +kernel
theorem dX10_next_113 : decode cX10_next 113 = .ok (.if_icmp .eq 27, 3) := by decide +kernel
theorem dX10_next_116 : decode cX10_next 116 = .ok (.iload_n 1, 1) := by decide +kernel
theorem dX10_next_117 : decode cX10_next 117 = .ok (.bipush 40, 2) := by decide +kernel
theorem dX10_next_119 : decode cX10_next 119 = .ok (.if_icmp .eq 21, 3) := by decide +kernel
theorem dX10_next_122 : decode cX10_next 122 = .ok (.iload_n 1, 1) := by decide +kernel
theorem dX10_next_123 : decode cX10_next 123 = .ok (.bipush 41, 2) := by decide +kernel
theorem dX10_next_125 : decode cX10_next 125 = .ok (.if_icmp .eq 15, 3) := by decide +kernel
theorem dX10_next_128 : decode cX10_next 128 = .ok (.iload_n 1, 1) := by decide +kernel
theorem dX10_next_129 : decode cX10_next 129 = .ok (.bipush 60, 2) := by decide +kernel
theorem dX10_next_131 : decode cX10_next 131 = .ok (.if_icmp .lt 13, 3) := by decide +kernel
theorem dX10_next_134 : decode cX10_next 134 = .ok (.iload_n 1, 1) := by decide +kernel
theorem dX10_next_135 : decode cX10_next 135 = .ok (.bipush 62, 2) := by decide +kernel
theorem dX10_next_137 : decode cX10_next 137 = .ok (.if_icmp .gt 7, 3) := by decide +kernel
theorem dX10_next_140 : decode cX10_next 140 = .ok (.iconst 3, 1) := by decide +kernel
theorem dX10_next_141 : decode cX10_next 141 = .ok (.goto 4, 3) := by decide +kernel
theorem dX10_next_144 : decode cX10_next 144 = .ok (.iconst 4, 1) := by decide +kernel
theorem dX10_next_145 : decode cX10_next 145 = .ok (.putfield 179, 3) := by decide +kernel
theorem dX10_next_148 : decode cX10_next 148 = .ok (.aload_n 0, 1) := by decide +kernel
theorem dX10_next_149 : decode cX10_next 149 = .ok (.iload_n 1, 1) := by decide +kernel
theorem dX10_next_150 : decode cX10_next 150 = .ok (.putfield 189, 3) := by decide +kernel
theorem dX10_next_153 : decode cX10_next 153 = .ok (.aload_n 0, 1) := by decide +kernel
theorem dX10_next_154 : decode cX10_next 154 = .ok (.dup, 1) := by decide +kernel
theorem dX10_next_155 : decode cX10_next 155 = .ok (.getfield 21, 3) := by decide +kernel
theorem dX10_next_158 : decode cX10_next 158 = .ok (.iconst 1, 1) := by decide +kernel
theorem dX10_next_159 : decode cX10_next 159 = .ok (.iadd, 1) := by decide +kernel
theorem dX10_next_160 : decode cX10_next 160 = .ok (.putfield 21, 3) := by decide +kernel
theorem dX10_next_163 : decode cX10_next 163 = .ok (.return_, 1) := by decide +kernel
theorem dX10_next_164 : decode cX10_next 164 = .ok (.iload_n 1, 1) := by decide +kernel
theorem dX10_next_165 : decode cX10_next 165 = .ok (.invokestatic 182, 3) := by decide +kernel
theorem dX10_next_168 : decode cX10_next 168 = .ok (.istore_n 2, 1) := by decide +kernel
theorem dX10_next_169 : decode cX10_next 169 = .ok (.iconst 1, 1) := by decide +kernel
theorem dX10_next_170 : decode cX10_next 170 = .ok (.istore_n 3, 1) := by decide +kernel
theorem dX10_next_171 : decode cX10_next 171 = .ok (.aload_n 0, 1) := by decide +kernel
theorem dX10_next_172 : decode cX10_next 172 = .ok (.lconst 0, 1) := by decide +kernel
theorem dX10_next_173 : decode cX10_next 173 = .ok (.putfield 192, 3) := by decide +kernel
theorem dX10_next_176 : decode cX10_next 176 = .ok (.aload_n 0, 1) := by decide +kernel
theorem dX10_next_177 : decode cX10_next 177 = .ok (.iconst 0, 1) := by decide +kernel
theorem dX10_next_178 : decode cX10_next 178 = .ok (.putfield 189, 3) := by decide +kernel
theorem dX10_next_181 : decode cX10_next 181 = .ok (.aload_n 0, 1) := by decide +kernel
theorem dX10_next_182 : decode cX10_next 182 = .ok (.invokevirtual 169, 3) := by decide +kernel
theorem dX10_next_185 : decode cX10_next 185 = .ok (.invokestatic 182, 3) := by decide +kernel
theorem dX10_next_188 : decode cX10_next 188 = .ok (.ifCond .ne 13, 3) := by decide +kernel
theorem dX10_next_191 : decode cX10_next 191 = .ok (.aload_n 0, 1) := by decide +kernel
theorem dX10_next_192 : decode cX10_next 192 = .ok (.invokevirtual 169, 3) := by decide +kernel
theorem dX10_next_195 : decode cX10_next 195 = .ok (.invokestatic 186, 3) := by decide +kernel
theorem dX10_next_198 : decode cX10_next 198 = .ok (.ifCond .eq 100, 3) := by decide +kernel
theorem dX10_next_201 : decode cX10_next 201 = .ok (.iload_n 3, 1) := by decide +kernel
theorem dX10_next_202 : decode cX10_next 202 = .ok (.ifCond .eq 18, 3) := by decide +kernel
theorem dX10_next_205 : decode cX10_next 205 = .ok (.aload_n 0, 1) := by decide +kernel
theorem dX10_next_206 : decode cX10_next 206 = .ok (.invokevirtual 169, 3) := by decide +kernel
theorem dX10_next_209 : decode cX10_next 209 = .ok (.invokestatic 182, 3) := by decide +kernel
theorem dX10_next_212 : decode cX10_next 212 = .ok (.iload_n 2, 1) := by decide +kernel
theorem dX10_next_213 : decode cX10_next 213 = .ok (.if_icmp .ne 7, 3) := by decide +kernel
theorem dX10_next_216 : decode cX10_next 216 = .ok (.iconst 1, 1) := by decide +kernel
theorem dX10_next_217 : decode cX10_next 217 = .ok (.goto 4, 3) := by decide +kernel
theorem dX10_next_220 : decode cX10_next 220 = .ok (.iconst 0, 1) := by decide +kernel
theorem dX10_next_221 : decode cX10_next 221 = .ok (.istore_n 3, 1) := by decide +kernel
theorem dX10_next_222 : decode cX10_next 222 = .ok (.aload_n 0, 1) := by decide +kernel
theorem dX10_next_223 : decode cX10_next 223 = .ok (.getfield 176, 3) := by decide +kernel
theorem dX10_next_226 : decode cX10_next 226 = .ok (.bipush 7, 2) := by decide +kernel
theorem dX10_next_228 : decode cX10_next 228 = .ok (.if_icmp .ge 20, 3) := by decide +kernel
theorem dX10_next_231 : decode cX10_next 231 = .ok (.aload_n 0, 1) := by decide +kernel
theorem dX10_next_232 : decode cX10_next 232 = .ok (.aload_n 0, 1) := by decide +kernel
theorem dX10_next_233 : decode cX10_next 233 = .ok (.getfield 192, 3) := by decide +kernel
theorem dX10_next_236 : decode cX10_next 236 = .ok (.bipush 8, 2) := by decide +kernel
theorem dX10_next_238 : decode cX10_next 238 = .ok (.lshl, 1) := by decide +kernel
theorem dX10_next_239 : decode cX10_next 239 = .ok (.aload_n 0, 1) := by decide +kernel
theorem dX10_next_240 : decode cX10_next 240 = .ok (.invokevirtual 169, 3) := by decide +kernel
theorem dX10_next_243 : decode cX10_next 243 = .ok (.i2l, 1) := by decide +kernel
theorem dX10_next_244 : decode cX10_next 244 = .ok (.lor, 1) := by decide +kernel
theorem dX10_next_245 : decode cX10_next 245 = .ok (.putfield 192, 3) := by decide +kernel
theorem dX10_next_248 : decode cX10_next 248 = .ok (.aload_n 0, 1) := by decide +kernel
theorem dX10_next_249 : decode cX10_next 249 = .ok (.getfield 176, 3) := by decide +kernel
theorem dX10_next_252 : decode cX10_next 252 = .ok (.iconst 3, 1) := by decide +kernel
theorem dX10_next_253 : decode cX10_next 253 = .ok (.if_icmp .ge 22, 3) := by decide +kernel
theorem dX10_next_256 : decode cX10_next 256 = .ok (.aload_n 0, 1) := by decide +kernel
theorem dX10_next_257 : decode cX10_next 257 = .ok (.bipush 10, 2) := by decide +kernel
theorem dX10_next_259 : decode cX10_next 259 = .ok (.aload_n 0, 1) := by decide +kernel
theorem dX10_next_260 : decode cX10_next 260 = .ok (.getfield 189, 3) := by decide +kernel
theorem dX10_next_263 : decode cX10_next 263 = .ok (.imul, 1) := by decide +kernel
theorem dX10_next_264 : decode cX10_next 264 = .ok (.aload_n 0, 1) := by decide +kernel
theorem dX10_next_265 : decode cX10_next 265 = .ok (.invokevirtual 169, 3) := by decide +kernel
theorem dX10_next_268 : decode cX10_next 268 = .ok (.iadd, 1) := by decide +kernel
theorem dX10_next_269 : decode cX10_next 269 = .ok (.bipush 48, 2) := by decide +kernel
theorem dX10_next_271 : decode cX10_next 271 = .ok (.isub, 1) := by decide +kernel
theorem dX10_next_272 : decode cX10_next 272 = .ok (.putfield 189, 3) := by decide +kernel
theorem dX10_next_275 : decode cX10_next 275 = .ok (.aload_n 0, 1) := by decide +kernel
theorem dX10_next_276 : decode cX10_next 276 = .ok (.dup, 1) := by decide +kernel
theorem dX10_next_277 : decode cX10_next 277 = .ok (.getfield 176, 3) := by decide +kernel
theorem dX10_next_280 : decode cX10_next 280 = .ok (.iconst 1, 1) := by decide +kernel
theorem dX10_next_281 : decode cX10_next 281 = .ok (.iadd, 1) := by decide +kernel
theorem dX10_next_282 : decode cX10_next 282 = .ok (.putfield 176, 3) := by decide +kernel
theorem dX10_next_285 : decode cX10_next 285 = .ok (.aload_n 0, 1) := by decide +kernel
theorem dX10_next_286 : decode cX10_next 286 = .ok (.dup, 1) := by decide +kernel
theorem dX10_next_287 : decode cX10_next 287 = .ok (.getfield 21, 3) := by decide +kernel
theorem dX10_next_290 : decode cX10_next 290 = .ok (.iconst 1, 1) := by decide +kernel
theorem dX10_next_291 : decode cX10_next 291 = .ok (.iadd, 1) := by decide +kernel
theorem dX10_next_292 : decode cX10_next 292 = .ok (.putfield 21, 3) := by decide +kernel
theorem dX10_next_295 : decode cX10_next 295 = .ok (.goto (-114), 3) := by decide +kernel
theorem dX10_next_298 : decode cX10_next 298 = .ok (.aload_n 0, 1) := by decide +kernel
theorem dX10_next_299 : decode cX10_next 299 = .ok (.iload_n 3, 1) := by decide +kernel
theorem dX10_next_300 : decode cX10_next 300 = .ok (.ifCond .eq 20, 3) := by decide +kernel
theorem dX10_next_303 : decode cX10_next 303 = .ok (.aload_n 0, 1) := by decide +kernel
theorem dX10_next_304 : decode cX10_next 304 = .ok (.getfield 176, 3) := by decide +kernel
theorem dX10_next_307 : decode cX10_next 307 = .ok (.iload_n 2, 1) := by decide +kernel
theorem dX10_next_308 : decode cX10_next 308 = .ok (.ifCond .eq 8, 3) := by decide +kernel
theorem dX10_next_311 : decode cX10_next 311 = .ok (.bipush 7, 2) := by decide +kernel
theorem dX10_next_313 : decode cX10_next 313 = .ok (.goto 4, 3) := by decide +kernel
theorem dX10_next_316 : decode cX10_next 316 = .ok (.iconst 3, 1) := by decide +kernel
theorem dX10_next_317 : decode cX10_next 317 = .ok (.if_icmp .le 7, 3) := by decide +kernel
theorem dX10_next_320 : decode cX10_next 320 = .ok (.iconst 4, 1) := by decide +kernel
theorem dX10_next_321 : decode cX10_next 321 = .ok (.goto 12, 3) := by decide +kernel
theorem dX10_next_324 : decode cX10_next 324 = .ok (.iload_n 2, 1) := by decide +kernel
theorem dX10_next_325 : decode cX10_next 325 = .ok (.ifCond .eq 7, 3) := by decide +kernel
theorem dX10_next_328 : decode cX10_next 328 = .ok (.iconst 1, 1) := by decide +kernel
theorem dX10_next_329 : decode cX10_next 329 = .ok (.goto 4, 3) := by decide +kernel
theorem dX10_next_332 : decode cX10_next 332 = .ok (.iconst 2, 1) := by decide +kernel
theorem dX10_next_333 : decode cX10_next 333 = .ok (.putfield 179, 3) := by decide +kernel
theorem dX10_next_336 : decode cX10_next 336 = .ok (.return_, 1) := by decide +kernel
theorem dX10_bad_0 : decode cX10_bad 0 = .ok (.aload_n 0, 1) := by decide +kernel
theorem dX10_bad_1 : decode cX10_bad 1 = .ok (.iload_n 1, 1) := by decide +kernel
theorem dX10_bad_2 : decode cX10_bad 2 = .ok (.putfield 196, 3) := by decide +kernel
theorem dX10_bad_5 : decode cX10_bad 5 = .ok (.aload_n 0, 1) := by decide +kernel
theorem dX10_bad_6 : decode cX10_bad 6 = .ok (.aload_n 0, 1) := by decide +kernel
theorem dX10_bad_7 : decode cX10_bad 7 = .ok (.getfield 173, 3) := by decide +kernel
theorem dX10_bad_10 : decode cX10_bad 10 = .ok (.putfield 199, 3) := by decide +kernel
theorem dX10_bad_13 : decode cX10_bad 13 = .ok (.iconst 0, 1) := by decide +kernel
theorem dX10_bad_14 : decode cX10_bad 14 = .ok (.ireturn, 1) := by decide +kernel
theorem dX10_isWord_0 : decode cX10_isWord 0 = .ok (.aload_n 0, 1) := by decide +kernel
theorem dX10_isWord_1 : decode cX10_isWord 1 = .ok (.getfield 179, 3) := by decide +kernel
theorem dX10_isWord_4 : decode cX10_isWord 4 = .ok (.iconst 1, 1) := by decide +kernel
theorem dX10_isWord_5 : decode cX10_isWord 5 = .ok (.if_icmp .ne 16, 3) := by decide +kernel
theorem dX10_isWord_8 : decode cX10_isWord 8 = .ok (.aload_n 0, 1) := by decide +kernel
theorem dX10_isWord_9 : decode cX10_isWord 9 = .ok (.getfield 192, 3) := by decide +kernel
theorem dX10_isWord_12 : decode cX10_isWord 12 = .ok (.lload_n 1, 1) := by decide +kernel
theorem dX10_isWord_13 : decode cX10_isWord 13 = .ok (.lcmp, 1) := by decide +kernel
theorem dX10_isWord_14 : decode cX10_isWord 14 = .ok (.ifCond .ne 7, 3) := by decide +kernel
theorem dX10_isWord_17 : decode cX10_isWord 17 = .ok (.iconst 1, 1) := by decide +kernel
theorem dX10_isWord_18 : decode cX10_isWord 18 = .ok (.goto 4, 3) := by decide +kernel
theorem dX10_isWord_21 : decode cX10_isWord 21 = .ok (.iconst 0, 1) := by decide +kernel
theorem dX10_isWord_22 : decode cX10_isWord 22 = .ok (.ireturn, 1) := by decide +kernel
theorem dX10_isSign_0 : decode cX10_isSign 0 = .ok (.aload_n 0, 1) := by decide +kernel
theorem dX10_isSign_1 : decode cX10_isSign 1 = .ok (.getfield 179, 3) := by decide +kernel
theorem dX10_isSign_4 : decode cX10_isSign 4 = .ok (.iconst 3, 1) := by decide +kernel
theorem dX10_isSign_5 : decode cX10_isSign 5 = .ok (.if_icmp .ne 15, 3) := by decide +kernel
theorem dX10_isSign_8 : decode cX10_isSign 8 = .ok (.aload_n 0, 1) := by decide +kernel
theorem dX10_isSign_9 : decode cX10_isSign 9 = .ok (.getfield 189, 3) := by decide +kernel
theorem dX10_isSign_12 : decode cX10_isSign 12 = .ok (.iload_n 1, 1) := by decide +kernel
theorem dX10_isSign_13 : decode cX10_isSign 13 = .ok (.if_icmp .ne 7, 3) := by decide +kernel
theorem dX10_isSign_16 : decode cX10_isSign 16 = .ok (.iconst 1, 1) := by decide +kernel
theorem dX10_isSign_17 : decode cX10_isSign 17 = .ok (.goto 4, 3) := by decide +kernel
theorem dX10_isSign_20 : decode cX10_isSign 20 = .ok (.iconst 0, 1) := by decide +kernel
theorem dX10_isSign_21 : decode cX10_isSign 21 = .ok (.ireturn, 1) := by decide +kernel
theorem dX10_sign_0 : decode cX10_sign 0 = .ok (.aload_n 0, 1) := by decide +kernel
theorem dX10_sign_1 : decode cX10_sign 1 = .ok (.iload_n 1, 1) := by decide +kernel
theorem dX10_sign_2 : decode cX10_sign 2 = .ok (.invokevirtual 202, 3) := by decide +kernel
theorem dX10_sign_5 : decode cX10_sign 5 = .ok (.ifCond .ne 9, 3) := by decide +kernel
theorem dX10_sign_8 : decode cX10_sign 8 = .ok (.aload_n 0, 1) := by decide +kernel
theorem dX10_sign_9 : decode cX10_sign 9 = .ok (.iconst 1, 1) := by decide +kernel
theorem dX10_sign_10 : decode cX10_sign 10 = .ok (.invokevirtual 205, 3) := by decide +kernel
theorem dX10_sign_13 : decode cX10_sign 13 = .ok (.ireturn, 1) := by decide +kernel
theorem dX10_sign_14 : decode cX10_sign 14 = .ok (.aload_n 0, 1) := by decide +kernel
theorem dX10_sign_15 : decode cX10_sign 15 = .ok (.invokevirtual 208, 3) := by decide +kernel
theorem dX10_sign_18 : decode cX10_sign 18 = .ok (.iconst 1, 1) := by decide +kernel
theorem dX10_sign_19 : decode cX10_sign 19 = .ok (.ireturn, 1) := by decide +kernel
theorem dX10_isName_0 : decode cX10_isName 0 = .ok (.aload_n 0, 1) := by decide +kernel
theorem dX10_isName_1 : decode cX10_isName 1 = .ok (.getfield 179, 3) := by decide +kernel
theorem dX10_isName_4 : decode cX10_isName 4 = .ok (.iconst 1, 1) := by decide +kernel
theorem dX10_isName_5 : decode cX10_isName 5 = .ok (.if_icmp .ne 7, 3) := by decide +kernel
theorem dX10_isName_8 : decode cX10_isName 8 = .ok (.iconst 1, 1) := by decide +kernel
theorem dX10_isName_9 : decode cX10_isName 9 = .ok (.goto 4, 3) := by decide +kernel
theorem dX10_isName_12 : decode cX10_isName 12 = .ok (.iconst 0, 1) := by decide +kernel
theorem dX10_isName_13 : decode cX10_isName 13 = .ok (.istore_n 1, 1) := by decide +kernel
theorem dX10_isName_14 : decode cX10_isName 14 = .ok (.iconst 0, 1) := by decide +kernel
theorem dX10_isName_15 : decode cX10_isName 15 = .ok (.istore_n 2, 1) := by decide +kernel
theorem dX10_isName_16 : decode cX10_isName 16 = .ok (.iload_n 2, 1) := by decide +kernel
theorem dX10_isName_17 : decode cX10_isName 17 = .ok (.bipush 23, 2) := by decide +kernel
theorem dX10_isName_19 : decode cX10_isName 19 = .ok (.if_icmp .ge 33, 3) := by decide +kernel
theorem dX10_isName_22 : decode cX10_isName 22 = .ok (.iload_n 1, 1) := by decide +kernel
theorem dX10_isName_23 : decode cX10_isName 23 = .ok (.ifCond .eq 21, 3) := by decide +kernel
theorem dX10_isName_26 : decode cX10_isName 26 = .ok (.aload_n 0, 1) := by decide +kernel
theorem dX10_isName_27 : decode cX10_isName 27 = .ok (.getfield 192, 3) := by decide +kernel
theorem dX10_isName_30 : decode cX10_isName 30 = .ok (.aload_n 0, 1) := by decide +kernel
theorem dX10_isName_31 : decode cX10_isName 31 = .ok (.getfield 51, 3) := by decide +kernel
theorem dX10_isName_34 : decode cX10_isName 34 = .ok (.iload_n 2, 1) := by decide +kernel
theorem dX10_isName_35 : decode cX10_isName 35 = .ok (.laload, 1) := by decide +kernel
theorem dX10_isName_36 : decode cX10_isName 36 = .ok (.lcmp, 1) := by decide +kernel
theorem dX10_isName_37 : decode cX10_isName 37 = .ok (.ifCond .eq 7, 3) := by decide +kernel
theorem dX10_isName_40 : decode cX10_isName 40 = .ok (.iconst 1, 1) := by decide +kernel
theorem dX10_isName_41 : decode cX10_isName 41 = .ok (.goto 4, 3) := by decide +kernel
theorem dX10_isName_44 : decode cX10_isName 44 = .ok (.iconst 0, 1) := by decide +kernel
theorem dX10_isName_45 : decode cX10_isName 45 = .ok (.istore_n 1, 1) := by decide +kernel
theorem dX10_isName_46 : decode cX10_isName 46 = .ok (.iinc 2 1, 3) := by decide +kernel
theorem dX10_isName_49 : decode cX10_isName 49 = .ok (.goto (-33), 3) := by decide +kernel
theorem dX10_isName_52 : decode cX10_isName 52 = .ok (.iload_n 1, 1) := by decide +kernel
theorem dX10_isName_53 : decode cX10_isName 53 = .ok (.ireturn, 1) := by decide +kernel
theorem dX10_takes_0 : decode cX10_takes 0 = .ok (.aload_n 0, 1) := by decide +kernel
theorem dX10_takes_1 : decode cX10_takes 1 = .ok (.getfield 179, 3) := by decide +kernel
theorem dX10_takes_4 : decode cX10_takes 4 = .ok (.iconst 2, 1) := by decide +kernel
theorem dX10_takes_5 : decode cX10_takes 5 = .ok (.if_icmp .eq 9, 3) := by decide +kernel
theorem dX10_takes_8 : decode cX10_takes 8 = .ok (.aload_n 0, 1) := by decide +kernel
theorem dX10_takes_9 : decode cX10_takes 9 = .ok (.iconst 1, 1) := by decide +kernel
theorem dX10_takes_10 : decode cX10_takes 10 = .ok (.invokevirtual 205, 3) := by decide +kernel
theorem dX10_takes_13 : decode cX10_takes 13 = .ok (.ireturn, 1) := by decide +kernel
theorem dX10_takes_14 : decode cX10_takes 14 = .ok (.aload_n 0, 1) := by decide +kernel
theorem dX10_takes_15 : decode cX10_takes 15 = .ok (.getfield 189, 3) := by decide +kernel
theorem dX10_takes_18 : decode cX10_takes 18 = .ok (.iload_n 1, 1) := by decide +kernel
theorem dX10_takes_19 : decode cX10_takes 19 = .ok (.iload_n 2, 1) := by decide +kernel
theorem dX10_takes_20 : decode cX10_takes 20 = .ok (.invokestatic 211, 3) := by decide +kernel
theorem dX10_takes_23 : decode cX10_takes 23 = .ok (.ifCond .ne 9, 3) := by decide +kernel
theorem dX10_takes_26 : decode cX10_takes 26 = .ok (.aload_n 0, 1) := by decide +kernel
theorem dX10_takes_27 : decode cX10_takes 27 = .ok (.iconst 2, 1) := by decide +kernel
theorem dX10_takes_28 : decode cX10_takes 28 = .ok (.invokevirtual 205, 3) := by decide +kernel
theorem dX10_takes_31 : decode cX10_takes 31 = .ok (.ireturn, 1) := by decide +kernel
theorem dX10_takes_32 : decode cX10_takes 32 = .ok (.aload_n 0, 1) := by decide +kernel
theorem dX10_takes_33 : decode cX10_takes 33 = .ok (.aload_n 0, 1) := by decide +kernel
theorem dX10_takes_34 : decode cX10_takes 34 = .ok (.getfield 189, 3) := by decide +kernel
theorem dX10_takes_37 : decode cX10_takes 37 = .ok (.putfield 215, 3) := by decide +kernel
theorem dX10_takes_40 : decode cX10_takes 40 = .ok (.aload_n 0, 1) := by decide +kernel
theorem dX10_takes_41 : decode cX10_takes 41 = .ok (.invokevirtual 208, 3) := by decide +kernel
theorem dX10_takes_44 : decode cX10_takes 44 = .ok (.iconst 1, 1) := by decide +kernel
theorem dX10_takes_45 : decode cX10_takes 45 = .ok (.ireturn, 1) := by decide +kernel
theorem dX10_find_0 : decode cX10_find 0 = .ok (.iconst 0, 1) := by decide +kernel
theorem dX10_find_1 : decode cX10_find 1 = .ok (.istore_n 3, 1) := by decide +kernel
theorem dX10_find_2 : decode cX10_find 2 = .ok (.iload_n 3, 1) := by decide +kernel
theorem dX10_find_3 : decode cX10_find 3 = .ok (.iload_n 2, 1) := by decide +kernel
theorem dX10_find_4 : decode cX10_find 4 = .ok (.if_icmp .ge 27, 3) := by decide +kernel
theorem dX10_find_7 : decode cX10_find 7 = .ok (.aload_n 0, 1) := by decide +kernel
theorem dX10_find_8 : decode cX10_find 8 = .ok (.getfield 47, 3) := by decide +kernel
theorem dX10_find_11 : decode cX10_find 11 = .ok (.iload_n 1, 1) := by decide +kernel
theorem dX10_find_12 : decode cX10_find 12 = .ok (.iload_n 3, 1) := by decide +kernel
theorem dX10_find_13 : decode cX10_find 13 = .ok (.iadd, 1) := by decide +kernel
theorem dX10_find_14 : decode cX10_find 14 = .ok (.laload, 1) := by decide +kernel
theorem dX10_find_15 : decode cX10_find 15 = .ok (.aload_n 0, 1) := by decide +kernel
theorem dX10_find_16 : decode cX10_find 16 = .ok (.getfield 192, 3) := by decide +kernel
theorem dX10_find_19 : decode cX10_find 19 = .ok (.lcmp, 1) := by decide +kernel
theorem dX10_find_20 : decode cX10_find 20 = .ok (.ifCond .ne 5, 3) := by decide +kernel
theorem dX10_find_23 : decode cX10_find 23 = .ok (.iload_n 3, 1) := by decide +kernel
theorem dX10_find_24 : decode cX10_find 24 = .ok (.ireturn, 1) := by decide +kernel
theorem dX10_find_25 : decode cX10_find 25 = .ok (.iinc 3 1, 3) := by decide +kernel
theorem dX10_find_28 : decode cX10_find 28 = .ok (.goto (-26), 3) := by decide +kernel
theorem dX10_find_31 : decode cX10_find 31 = .ok (.iconst (-1), 1) := by decide +kernel
theorem dX10_find_32 : decode cX10_find 32 = .ok (.ireturn, 1) := by decide +kernel
theorem dX10_fresh_0 : decode cX10_fresh 0 = .ok (.aload_n 0, 1) := by decide +kernel
theorem dX10_fresh_1 : decode cX10_fresh 1 = .ok (.invokevirtual 218, 3) := by decide +kernel
theorem dX10_fresh_4 : decode cX10_fresh 4 = .ok (.ifCond .ne 9, 3) := by decide +kernel
theorem dX10_fresh_7 : decode cX10_fresh 7 = .ok (.aload_n 0, 1) := by decide +kernel
theorem dX10_fresh_8 : decode cX10_fresh 8 = .ok (.iconst 1, 1) := by decide +kernel
theorem dX10_fresh_9 : decode cX10_fresh 9 = .ok (.invokevirtual 205, 3) := by decide +kernel
theorem dX10_fresh_12 : decode cX10_fresh 12 = .ok (.ireturn, 1) := by decide +kernel
theorem dX10_fresh_13 : decode cX10_fresh 13 = .ok (.aload_n 0, 1) := by decide +kernel
theorem dX10_fresh_14 : decode cX10_fresh 14 = .ok (.bipush 18, 2) := by decide +kernel
theorem dX10_fresh_16 : decode cX10_fresh 16 = .ok (.aload_n 0, 1) := by decide +kernel
theorem dX10_fresh_17 : decode cX10_fresh 17 = .ok (.getfield 41, 3) := by decide +kernel
theorem dX10_fresh_20 : decode cX10_fresh 20 = .ok (.iconst 5, 1) := by decide +kernel
theorem dX10_fresh_21 : decode cX10_fresh 21 = .ok (.iaload, 1) := by decide +kernel
theorem dX10_fresh_22 : decode cX10_fresh 22 = .ok (.invokevirtual 222, 3) := by decide +kernel
theorem dX10_fresh_25 : decode cX10_fresh 25 = .ok (.ifCond .ge 19, 3) := by decide +kernel
theorem dX10_fresh_28 : decode cX10_fresh 28 = .ok (.aload_n 0, 1) := by decide +kernel
theorem dX10_fresh_29 : decode cX10_fresh 29 = .ok (.bipush 30, 2) := by decide +kernel
theorem dX10_fresh_31 : decode cX10_fresh 31 = .ok (.aload_n 0, 1) := by decide +kernel
theorem dX10_fresh_32 : decode cX10_fresh 32 = .ok (.getfield 41, 3) := by decide +kernel
theorem dX10_fresh_35 : decode cX10_fresh 35 = .ok (.bipush 7, 2) := by decide +kernel
theorem dX10_fresh_37 : decode cX10_fresh 37 = .ok (.iaload, 1) := by decide +kernel
theorem dX10_fresh_38 : decode cX10_fresh 38 = .ok (.invokevirtual 222, 3) := by decide +kernel
theorem dX10_fresh_41 : decode cX10_fresh 41 = .ok (.ifCond .lt 9, 3) := by decide +kernel
theorem dX10_fresh_44 : decode cX10_fresh 44 = .ok (.aload_n 0, 1) := by decide +kernel
theorem dX10_fresh_45 : decode cX10_fresh 45 = .ok (.iconst 3, 1) := by decide +kernel
theorem dX10_fresh_46 : decode cX10_fresh 46 = .ok (.invokevirtual 205, 3) := by decide +kernel
theorem dX10_fresh_49 : decode cX10_fresh 49 = .ok (.ireturn, 1) := by decide +kernel
theorem dX10_fresh_50 : decode cX10_fresh 50 = .ok (.aload_n 0, 1) := by decide +kernel
theorem dX10_fresh_51 : decode cX10_fresh 51 = .ok (.getfield 47, 3) := by decide +kernel
theorem dX10_fresh_54 : decode cX10_fresh 54 = .ok (.iload_n 1, 1) := by decide +kernel
theorem dX10_fresh_55 : decode cX10_fresh 55 = .ok (.aload_n 0, 1) := by decide +kernel
theorem dX10_fresh_56 : decode cX10_fresh 56 = .ok (.getfield 192, 3) := by decide +kernel
theorem dX10_fresh_59 : decode cX10_fresh 59 = .ok (.lastore, 1) := by decide +kernel
theorem dX10_fresh_60 : decode cX10_fresh 60 = .ok (.aload_n 0, 1) := by decide +kernel
theorem dX10_fresh_61 : decode cX10_fresh 61 = .ok (.invokevirtual 208, 3) := by decide +kernel
theorem dX10_fresh_64 : decode cX10_fresh 64 = .ok (.iconst 1, 1) := by decide +kernel
theorem dX10_fresh_65 : decode cX10_fresh 65 = .ok (.ireturn, 1) := by decide +kernel
theorem dX10_onceOf_0 : decode cX10_onceOf 0 = .ok (.aload_n 0, 1) := by decide +kernel
theorem dX10_onceOf_1 : decode cX10_onceOf 1 = .ok (.ldc2_w 120, 3) := by decide +kernel
theorem dX10_onceOf_4 : decode cX10_onceOf 4 = .ok (.invokevirtual 225, 3) := by decide +kernel
theorem dX10_onceOf_7 : decode cX10_onceOf 7 = .ok (.ifCond .eq 7, 3) := by decide +kernel
theorem dX10_onceOf_10 : decode cX10_onceOf 10 = .ok (.iconst 0, 1) := by decide +kernel
theorem dX10_onceOf_11 : decode cX10_onceOf 11 = .ok (.goto 60, 3) := by decide +kernel
theorem dX10_onceOf_14 : decode cX10_onceOf 14 = .ok (.aload_n 0, 1) := by decide +kernel
theorem dX10_onceOf_15 : decode cX10_onceOf 15 = .ok (.ldc2_w 122, 3) := by decide +kernel
theorem dX10_onceOf_18 : decode cX10_onceOf 18 = .ok (.invokevirtual 225, 3) := by decide +kernel
theorem dX10_onceOf_21 : decode cX10_onceOf 21 = .ok (.ifCond .eq 7, 3) := by decide +kernel
theorem dX10_onceOf_24 : decode cX10_onceOf 24 = .ok (.iconst 1, 1) := by decide +kernel
theorem dX10_onceOf_25 : decode cX10_onceOf 25 = .ok (.goto 46, 3) := by decide +kernel
theorem dX10_onceOf_28 : decode cX10_onceOf 28 = .ok (.aload_n 0, 1) := by decide +kernel
theorem dX10_onceOf_29 : decode cX10_onceOf 29 = .ok (.ldc2_w 124, 3) := by decide +kernel
theorem dX10_onceOf_32 : decode cX10_onceOf 32 = .ok (.invokevirtual 225, 3) := by decide +kernel
theorem dX10_onceOf_35 : decode cX10_onceOf 35 = .ok (.ifCond .eq 7, 3) := by decide +kernel
theorem dX10_onceOf_38 : decode cX10_onceOf 38 = .ok (.iconst 2, 1) := by decide +kernel
theorem dX10_onceOf_39 : decode cX10_onceOf 39 = .ok (.goto 32, 3) := by decide +kernel
theorem dX10_onceOf_42 : decode cX10_onceOf 42 = .ok (.aload_n 0, 1) := by decide +kernel
theorem dX10_onceOf_43 : decode cX10_onceOf 43 = .ok (.ldc2_w 126, 3) := by decide +kernel
theorem dX10_onceOf_46 : decode cX10_onceOf 46 = .ok (.invokevirtual 225, 3) := by decide +kernel
theorem dX10_onceOf_49 : decode cX10_onceOf 49 = .ok (.ifCond .eq 7, 3) := by decide +kernel
theorem dX10_onceOf_52 : decode cX10_onceOf 52 = .ok (.iconst 3, 1) := by decide +kernel
theorem dX10_onceOf_53 : decode cX10_onceOf 53 = .ok (.goto 18, 3) := by decide +kernel
theorem dX10_onceOf_56 : decode cX10_onceOf 56 = .ok (.aload_n 0, 1) := by decide +kernel
theorem dX10_onceOf_57 : decode cX10_onceOf 57 = .ok (.ldc2_w 128, 3) := by decide +kernel
theorem dX10_onceOf_60 : decode cX10_onceOf 60 = .ok (.invokevirtual 225, 3) := by decide +kernel
theorem dX10_onceOf_63 : decode cX10_onceOf 63 = .ok (.ifCond .eq 7, 3) := by decide +kernel
theorem dX10_onceOf_66 : decode cX10_onceOf 66 = .ok (.iconst 4, 1) := by decide +kernel
theorem dX10_onceOf_67 : decode cX10_onceOf 67 = .ok (.goto 4, 3) := by decide +kernel
theorem dX10_onceOf_70 : decode cX10_onceOf 70 = .ok (.iconst (-1), 1) := by decide +kernel
theorem dX10_onceOf_71 : decode cX10_onceOf 71 = .ok (.ireturn, 1) := by decide +kernel
theorem dX10_isOnce_0 : decode cX10_isOnce 0 = .ok (.aload_n 0, 1) := by decide +kernel
theorem dX10_isOnce_1 : decode cX10_isOnce 1 = .ok (.getfield 229, 3) := by decide +kernel
theorem dX10_isOnce_4 : decode cX10_isOnce 4 = .ok (.iload_n 1, 1) := by decide +kernel
theorem dX10_isOnce_5 : decode cX10_isOnce 5 = .ok (.invokestatic 232, 3) := by decide +kernel
theorem dX10_isOnce_8 : decode cX10_isOnce 8 = .ok (.ifCond .eq 9, 3) := by decide +kernel
theorem dX10_isOnce_11 : decode cX10_isOnce 11 = .ok (.aload_n 0, 1) := by decide +kernel
theorem dX10_isOnce_12 : decode cX10_isOnce 12 = .ok (.iconst 3, 1) := by decide +kernel
theorem dX10_isOnce_13 : decode cX10_isOnce 13 = .ok (.invokevirtual 205, 3) := by decide +kernel
theorem dX10_isOnce_16 : decode cX10_isOnce 16 = .ok (.ireturn, 1) := by decide +kernel
theorem dX10_isOnce_17 : decode cX10_isOnce 17 = .ok (.aload_n 0, 1) := by decide +kernel
theorem dX10_isOnce_18 : decode cX10_isOnce 18 = .ok (.dup, 1) := by decide +kernel
theorem dX10_isOnce_19 : decode cX10_isOnce 19 = .ok (.getfield 229, 3) := by decide +kernel
theorem dX10_isOnce_22 : decode cX10_isOnce 22 = .ok (.iconst 1, 1) := by decide +kernel
theorem dX10_isOnce_23 : decode cX10_isOnce 23 = .ok (.iload_n 1, 1) := by decide +kernel
theorem dX10_isOnce_24 : decode cX10_isOnce 24 = .ok (.ishl, 1) := by decide +kernel
theorem dX10_isOnce_25 : decode cX10_isOnce 25 = .ok (.ior, 1) := by decide +kernel
theorem dX10_isOnce_26 : decode cX10_isOnce 26 = .ok (.putfield 229, 3) := by decide +kernel
theorem dX10_isOnce_29 : decode cX10_isOnce 29 = .ok (.aload_n 0, 1) := by decide +kernel
theorem dX10_isOnce_30 : decode cX10_isOnce 30 = .ok (.invokevirtual 208, 3) := by decide +kernel
theorem dX10_isOnce_33 : decode cX10_isOnce 33 = .ok (.iconst 1, 1) := by decide +kernel
theorem dX10_isOnce_34 : decode cX10_isOnce 34 = .ok (.ireturn, 1) := by decide +kernel
theorem dX10_line0_0 : decode cX10_line0 0 = .ok (.aload_n 0, 1) := by decide +kernel
theorem dX10_line0_1 : decode cX10_line0 1 = .ok (.invokevirtual 236, 3) := by decide +kernel
theorem dX10_line0_4 : decode cX10_line0 4 = .ok (.istore_n 1, 1) := by decide +kernel
theorem dX10_line0_5 : decode cX10_line0 5 = .ok (.iload_n 1, 1) := by decide +kernel
theorem dX10_line0_6 : decode cX10_line0 6 = .ok (.ifCond .lt 107, 3) := by decide +kernel
theorem dX10_line0_9 : decode cX10_line0 9 = .ok (.aload_n 0, 1) := by decide +kernel
theorem dX10_line0_10 : decode cX10_line0 10 = .ok (.iload_n 1, 1) := by decide +kernel
theorem dX10_line0_11 : decode cX10_line0 11 = .ok (.invokevirtual 239, 3) := by decide +kernel
theorem dX10_line0_14 : decode cX10_line0 14 = .ok (.ifCond .ne 5, 3) := by decide +kernel
theorem dX10_line0_17 : decode cX10_line0 17 = .ok (.iconst 0, 1) := by decide +kernel
theorem dX10_line0_18 : decode cX10_line0 18 = .ok (.ireturn, 1) := by decide +kernel
theorem dX10_line0_19 : decode cX10_line0 19 = .ok (.aload_n 0, 1) := by decide +kernel
theorem dX10_line0_20 : decode cX10_line0 20 = .ok (.iload_n 1, 1) := by decide +kernel
theorem dX10_line0_21 : decode cX10_line0 21 = .ok (.ifCond .ne 7, 3) := by decide +kernel
theorem dX10_line0_24 : decode cX10_line0 24 = .ok (.iconst 5, 1) := by decide +kernel
theorem dX10_line0_25 : decode cX10_line0 25 = .ok (.goto 25, 3) := by decide +kernel
theorem dX10_line0_28 : decode cX10_line0 28 = .ok (.iload_n 1, 1) := by decide +kernel
theorem dX10_line0_29 : decode cX10_line0 29 = .ok (.iconst 1, 1) := by decide +kernel
theorem dX10_line0_30 : decode cX10_line0 30 = .ok (.if_icmp .ne 8, 3) := by decide +kernel
theorem dX10_line0_33 : decode cX10_line0 33 = .ok (.bipush 100, 2) := by decide +kernel
theorem dX10_line0_35 : decode cX10_line0 35 = .ok (.goto 15, 3) := by decide +kernel
theorem dX10_line0_38 : decode cX10_line0 38 = .ok (.iload_n 1, 1) := by decide +kernel
theorem dX10_line0_39 : decode cX10_line0 39 = .ok (.iconst 2, 1) := by decide +kernel
theorem dX10_line0_40 : decode cX10_line0 40 = .ok (.if_icmp .ne 9, 3) := by decide +kernel
theorem dX10_line0_43 : decode cX10_line0 43 = .ok (.sipush 300, 3) := by decide +kernel
theorem dX10_line0_46 : decode cX10_line0 46 = .ok (.goto 4, 3) := by decide +kernel
theorem dX10_line0_49 : decode cX10_line0 49 = .ok (.iconst 0, 1) := by decide +kernel
theorem dX10_line0_50 : decode cX10_line0 50 = .ok (.iload_n 1, 1) := by decide +kernel
theorem dX10_line0_51 : decode cX10_line0 51 = .ok (.ifCond .ne 8, 3) := by decide +kernel
theorem dX10_line0_54 : decode cX10_line0 54 = .ok (.bipush 40, 2) := by decide +kernel
theorem dX10_line0_56 : decode cX10_line0 56 = .ok (.goto 37, 3) := by decide +kernel
theorem dX10_line0_59 : decode cX10_line0 59 = .ok (.iload_n 1, 1) := by decide +kernel
theorem dX10_line0_60 : decode cX10_line0 60 = .ok (.iconst 1, 1) := by decide +kernel
theorem dX10_line0_61 : decode cX10_line0 61 = .ok (.if_icmp .ne 9, 3) := by decide +kernel
theorem dX10_line0_64 : decode cX10_line0 64 = .ok (.sipush 300, 3) := by decide +kernel
theorem dX10_line0_67 : decode cX10_line0 67 = .ok (.goto 26, 3) := by decide +kernel
theorem dX10_line0_70 : decode cX10_line0 70 = .ok (.iload_n 1, 1) := by decide +kernel
theorem dX10_line0_71 : decode cX10_line0 71 = .ok (.iconst 2, 1) := by decide +kernel
theorem dX10_line0_72 : decode cX10_line0 72 = .ok (.if_icmp .ne 9, 3) := by decide +kernel
theorem dX10_line0_75 : decode cX10_line0 75 = .ok (.sipush 900, 3) := by decide +kernel
theorem dX10_line0_78 : decode cX10_line0 78 = .ok (.goto 15, 3) := by decide +kernel
theorem dX10_line0_81 : decode cX10_line0 81 = .ok (.iload_n 1, 1) := by decide +kernel
theorem dX10_line0_82 : decode cX10_line0 82 = .ok (.iconst 3, 1) := by decide +kernel
theorem dX10_line0_83 : decode cX10_line0 83 = .ok (.if_icmp .ne 8, 3) := by decide +kernel
theorem dX10_line0_86 : decode cX10_line0 86 = .ok (.bipush 9, 2) := by decide +kernel
theorem dX10_line0_88 : decode cX10_line0 88 = .ok (.goto 5, 3) := by decide +kernel
theorem dX10_line0_91 : decode cX10_line0 91 = .ok (.bipush 20, 2) := by decide +kernel
theorem dX10_line0_93 : decode cX10_line0 93 = .ok (.invokevirtual 242, 3) := by decide +kernel
theorem dX10_line0_96 : decode cX10_line0 96 = .ok (.ifCond .ne 5, 3) := by decide +kernel
theorem dX10_line0_99 : decode cX10_line0 99 = .ok (.iconst 0, 1) := by decide +kernel
theorem dX10_line0_100 : decode cX10_line0 100 = .ok (.ireturn, 1) := by decide +kernel
theorem dX10_line0_101 : decode cX10_line0 101 = .ok (.aload_n 0, 1) := by decide +kernel
theorem dX10_line0_102 : decode cX10_line0 102 = .ok (.getfield 41, 3) := by decide +kernel
theorem dX10_line0_105 : decode cX10_line0 105 = .ok (.iload_n 1, 1) := by decide +kernel
theorem dX10_line0_106 : decode cX10_line0 106 = .ok (.aload_n 0, 1) := by decide +kernel
theorem dX10_line0_107 : decode cX10_line0 107 = .ok (.getfield 215, 3) := by decide +kernel
theorem dX10_line0_110 : decode cX10_line0 110 = .ok (.iastore, 1) := by decide +kernel
theorem dX10_line0_111 : decode cX10_line0 111 = .ok (.iconst 1, 1) := by decide +kernel
theorem dX10_line0_112 : decode cX10_line0 112 = .ok (.ireturn, 1) := by decide +kernel
theorem dX10_line0_113 : decode cX10_line0 113 = .ok (.aload_n 0, 1) := by decide +kernel
theorem dX10_line0_114 : decode cX10_line0 114 = .ok (.ldc2_w 130, 3) := by decide +kernel
theorem dX10_line0_117 : decode cX10_line0 117 = .ok (.invokevirtual 225, 3) := by decide +kernel
theorem dX10_line0_120 : decode cX10_line0 120 = .ok (.ifCond .eq 128, 3) := by decide +kernel
theorem dX10_line0_123 : decode cX10_line0 123 = .ok (.aload_n 0, 1) := by decide +kernel
theorem dX10_line0_124 : decode cX10_line0 124 = .ok (.getfield 41, 3) := by decide +kernel
theorem dX10_line0_127 : decode cX10_line0 127 = .ok (.iconst 5, 1) := by decide +kernel
theorem dX10_line0_128 : decode cX10_line0 128 = .ok (.iaload, 1) := by decide +kernel
theorem dX10_line0_129 : decode cX10_line0 129 = .ok (.istore_n 2, 1) := by decide +kernel
theorem dX10_line0_130 : decode cX10_line0 130 = .ok (.iload_n 2, 1) := by decide +kernel
theorem dX10_line0_131 : decode cX10_line0 131 = .ok (.bipush 12, 2) := by decide +kernel
theorem dX10_line0_133 : decode cX10_line0 133 = .ok (.if_icmp .ne 9, 3) := by decide +kernel
theorem dX10_line0_136 : decode cX10_line0 136 = .ok (.aload_n 0, 1) := by decide +kernel
theorem dX10_line0_137 : decode cX10_line0 137 = .ok (.iconst 4, 1) := by decide +kernel
theorem dX10_line0_138 : decode cX10_line0 138 = .ok (.invokevirtual 205, 3) := by decide +kernel
theorem dX10_line0_141 : decode cX10_line0 141 = .ok (.ireturn, 1) := by decide +kernel
theorem dX10_line0_142 : decode cX10_line0 142 = .ok (.aload_n 0, 1) := by decide +kernel
theorem dX10_line0_143 : decode cX10_line0 143 = .ok (.invokevirtual 208, 3) := by decide +kernel
theorem dX10_line0_146 : decode cX10_line0 146 = .ok (.aload_n 0, 1) := by decide +kernel
theorem dX10_line0_147 : decode cX10_line0 147 = .ok (.bipush 18, 2) := by decide +kernel
theorem dX10_line0_149 : decode cX10_line0 149 = .ok (.iload_n 2, 1) := by decide +kernel
theorem dX10_line0_150 : decode cX10_line0 150 = .ok (.iadd, 1) := by decide +kernel
theorem dX10_line0_151 : decode cX10_line0 151 = .ok (.invokevirtual 245, 3) := by decide +kernel
theorem dX10_line0_154 : decode cX10_line0 154 = .ok (.ifCond .ne 5, 3) := by decide +kernel
theorem dX10_line0_157 : decode cX10_line0 157 = .ok (.iconst 0, 1) := by decide +kernel
theorem dX10_line0_158 : decode cX10_line0 158 = .ok (.ireturn, 1) := by decide +kernel
theorem dX10_line0_159 : decode cX10_line0 159 = .ok (.aload_n 0, 1) := by decide +kernel
theorem dX10_line0_160 : decode cX10_line0 160 = .ok (.iconst 1, 1) := by decide +kernel
theorem dX10_line0_161 : decode cX10_line0 161 = .ok (.bipush 9, 2) := by decide +kernel
theorem dX10_line0_163 : decode cX10_line0 163 = .ok (.invokevirtual 242, 3) := by decide +kernel
theorem dX10_line0_166 : decode cX10_line0 166 = .ok (.ifCond .ne 5, 3) := by decide +kernel
theorem dX10_line0_169 : decode cX10_line0 169 = .ok (.iconst 0, 1) := by decide +kernel
theorem dX10_line0_170 : decode cX10_line0 170 = .ok (.ireturn, 1) := by decide +kernel
theorem dX10_line0_171 : decode cX10_line0 171 = .ok (.aload_n 0, 1) := by decide +kernel
theorem dX10_line0_172 : decode cX10_line0 172 = .ok (.getfield 41, 3) := by decide +kernel
theorem dX10_line0_175 : decode cX10_line0 175 = .ok (.bipush 8, 2) := by decide +kernel
theorem dX10_line0_177 : decode cX10_line0 177 = .ok (.iload_n 2, 1) := by decide +kernel
theorem dX10_line0_178 : decode cX10_line0 178 = .ok (.iadd, 1) := by decide +kernel
theorem dX10_line0_179 : decode cX10_line0 179 = .ok (.aload_n 0, 1) := by decide +kernel
theorem dX10_line0_180 : decode cX10_line0 180 = .ok (.getfield 215, 3) := by decide +kernel
theorem dX10_line0_183 : decode cX10_line0 183 = .ok (.iastore, 1) := by decide +kernel
theorem dX10_line0_184 : decode cX10_line0 184 = .ok (.aload_n 0, 1) := by decide +kernel
theorem dX10_line0_185 : decode cX10_line0 185 = .ok (.iconst 1, 1) := by decide +kernel
theorem dX10_line0_186 : decode cX10_line0 186 = .ok (.bipush 9, 2) := by decide +kernel
theorem dX10_line0_188 : decode cX10_line0 188 = .ok (.invokevirtual 242, 3) := by decide +kernel
theorem dX10_line0_191 : decode cX10_line0 191 = .ok (.ifCond .ne 5, 3) := by decide +kernel
theorem dX10_line0_194 : decode cX10_line0 194 = .ok (.iconst 0, 1) := by decide +kernel
theorem dX10_line0_195 : decode cX10_line0 195 = .ok (.ireturn, 1) := by decide +kernel
theorem dX10_line0_196 : decode cX10_line0 196 = .ok (.aload_n 0, 1) := by decide +kernel
theorem dX10_line0_197 : decode cX10_line0 197 = .ok (.getfield 41, 3) := by decide +kernel
theorem dX10_line0_200 : decode cX10_line0 200 = .ok (.bipush 20, 2) := by decide +kernel
theorem dX10_line0_202 : decode cX10_line0 202 = .ok (.iload_n 2, 1) := by decide +kernel
theorem dX10_line0_203 : decode cX10_line0 203 = .ok (.iadd, 1) := by decide +kernel
theorem dX10_line0_204 : decode cX10_line0 204 = .ok (.aload_n 0, 1) := by decide +kernel
theorem dX10_line0_205 : decode cX10_line0 205 = .ok (.getfield 215, 3) := by decide +kernel
theorem dX10_line0_208 : decode cX10_line0 208 = .ok (.iastore, 1) := by decide +kernel
theorem dX10_line0_209 : decode cX10_line0 209 = .ok (.aload_n 0, 1) := by decide +kernel
theorem dX10_line0_210 : decode cX10_line0 210 = .ok (.bipush 50, 2) := by decide +kernel
theorem dX10_line0_212 : decode cX10_line0 212 = .ok (.sipush 150, 3) := by decide +kernel
theorem dX10_line0_215 : decode cX10_line0 215 = .ok (.invokevirtual 242, 3) := by decide +kernel
theorem dX10_line0_218 : decode cX10_line0 218 = .ok (.ifCond .ne 5, 3) := by decide +kernel
theorem dX10_line0_221 : decode cX10_line0 221 = .ok (.iconst 0, 1) := by decide +kernel
theorem dX10_line0_222 : decode cX10_line0 222 = .ok (.ireturn, 1) := by decide +kernel
theorem dX10_line0_223 : decode cX10_line0 223 = .ok (.aload_n 0, 1) := by decide +kernel
theorem dX10_line0_224 : decode cX10_line0 224 = .ok (.getfield 41, 3) := by decide +kernel
theorem dX10_line0_227 : decode cX10_line0 227 = .ok (.bipush 32, 2) := by decide +kernel
theorem dX10_line0_229 : decode cX10_line0 229 = .ok (.iload_n 2, 1) := by decide +kernel
theorem dX10_line0_230 : decode cX10_line0 230 = .ok (.iadd, 1) := by decide +kernel
theorem dX10_line0_231 : decode cX10_line0 231 = .ok (.aload_n 0, 1) := by decide +kernel
theorem dX10_line0_232 : decode cX10_line0 232 = .ok (.getfield 215, 3) := by decide +kernel
theorem dX10_line0_235 : decode cX10_line0 235 = .ok (.iastore, 1) := by decide +kernel
theorem dX10_line0_236 : decode cX10_line0 236 = .ok (.aload_n 0, 1) := by decide +kernel
theorem dX10_line0_237 : decode cX10_line0 237 = .ok (.getfield 41, 3) := by decide +kernel
theorem dX10_line0_240 : decode cX10_line0 240 = .ok (.iconst 5, 1) := by decide +kernel
theorem dX10_line0_241 : decode cX10_line0 241 = .ok (.dup2, 1) := by decide +kernel
theorem dX10_line0_242 : decode cX10_line0 242 = .ok (.iaload, 1) := by decide +kernel
theorem dX10_line0_243 : decode cX10_line0 243 = .ok (.iconst 1, 1) := by decide +kernel
theorem dX10_line0_244 : decode cX10_line0 244 = .ok (.iadd, 1) := by decide +kernel
theorem dX10_line0_245 : decode cX10_line0 245 = .ok (.iastore, 1) := by decide +kernel
theorem dX10_line0_246 : decode cX10_line0 246 = .ok (.iconst 1, 1) := by decide +kernel
theorem dX10_line0_247 : decode cX10_line0 247 = .ok (.ireturn, 1) := by decide +kernel
theorem dX10_line0_248 : decode cX10_line0 248 = .ok (.aload_n 0, 1) := by decide +kernel
theorem dX10_line0_249 : decode cX10_line0 249 = .ok (.ldc2_w 132, 3) := by decide +kernel
theorem dX10_line0_252 : decode cX10_line0 252 = .ok (.invokevirtual 225, 3) := by decide +kernel
theorem dX10_line0_255 : decode cX10_line0 255 = .ok (.ifCond .eq 140, 3) := by decide +kernel
theorem dX10_line0_258 : decode cX10_line0 258 = .ok (.aload_n 0, 1) := by decide +kernel
theorem dX10_line0_259 : decode cX10_line0 259 = .ok (.getfield 41, 3) := by decide +kernel
theorem dX10_line0_262 : decode cX10_line0 262 = .ok (.bipush 6, 2) := by decide +kernel
theorem dX10_line0_264 : decode cX10_line0 264 = .ok (.iaload, 1) := by decide +kernel
theorem dX10_line0_265 : decode cX10_line0 265 = .ok (.istore_n 2, 1) := by decide +kernel
theorem dX10_line0_266 : decode cX10_line0 266 = .ok (.iload_n 2, 1) := by decide +kernel
theorem dX10_line0_267 : decode cX10_line0 267 = .ok (.bipush 12, 2) := by decide +kernel
theorem dX10_line0_269 : decode cX10_line0 269 = .ok (.if_icmp .ne 9, 3) := by decide +kernel
theorem dX10_line0_272 : decode cX10_line0 272 = .ok (.aload_n 0, 1) := by decide +kernel
theorem dX10_line0_273 : decode cX10_line0 273 = .ok (.iconst 4, 1) := by decide +kernel
theorem dX10_line0_274 : decode cX10_line0 274 = .ok (.invokevirtual 205, 3) := by decide +kernel
theorem dX10_line0_277 : decode cX10_line0 277 = .ok (.ireturn, 1) := by decide +kernel
theorem dX10_line0_278 : decode cX10_line0 278 = .ok (.aload_n 0, 1) := by decide +kernel
theorem dX10_line0_279 : decode cX10_line0 279 = .ok (.invokevirtual 208, 3) := by decide +kernel
theorem dX10_line0_282 : decode cX10_line0 282 = .ok (.aload_n 0, 1) := by decide +kernel
theorem dX10_line0_283 : decode cX10_line0 283 = .ok (.iconst 1, 1) := by decide +kernel
theorem dX10_line0_284 : decode cX10_line0 284 = .ok (.bipush 9, 2) := by decide +kernel
theorem dX10_line0_286 : decode cX10_line0 286 = .ok (.invokevirtual 242, 3) := by decide +kernel
theorem dX10_line0_289 : decode cX10_line0 289 = .ok (.ifCond .ne 5, 3) := by decide +kernel
theorem dX10_line0_292 : decode cX10_line0 292 = .ok (.iconst 0, 1) := by decide +kernel
theorem dX10_line0_293 : decode cX10_line0 293 = .ok (.ireturn, 1) := by decide +kernel
theorem dX10_line0_294 : decode cX10_line0 294 = .ok (.aload_n 0, 1) := by decide +kernel
theorem dX10_line0_295 : decode cX10_line0 295 = .ok (.getfield 41, 3) := by decide +kernel
theorem dX10_line0_298 : decode cX10_line0 298 = .ok (.bipush 44, 2) := by decide +kernel
theorem dX10_line0_300 : decode cX10_line0 300 = .ok (.iload_n 2, 1) := by decide +kernel
theorem dX10_line0_301 : decode cX10_line0 301 = .ok (.iadd, 1) := by decide +kernel
theorem dX10_line0_302 : decode cX10_line0 302 = .ok (.aload_n 0, 1) := by decide +kernel
theorem dX10_line0_303 : decode cX10_line0 303 = .ok (.getfield 215, 3) := by decide +kernel
theorem dX10_line0_306 : decode cX10_line0 306 = .ok (.iastore, 1) := by decide +kernel
theorem dX10_line0_307 : decode cX10_line0 307 = .ok (.aload_n 0, 1) := by decide +kernel
theorem dX10_line0_308 : decode cX10_line0 308 = .ok (.iconst 0, 1) := by decide +kernel
theorem dX10_line0_309 : decode cX10_line0 309 = .ok (.bipush 9, 2) := by decide +kernel
theorem dX10_line0_311 : decode cX10_line0 311 = .ok (.invokevirtual 242, 3) := by decide +kernel
theorem dX10_line0_314 : decode cX10_line0 314 = .ok (.ifCond .ne 5, 3) := by decide +kernel
theorem dX10_line0_317 : decode cX10_line0 317 = .ok (.iconst 0, 1) := by decide +kernel
theorem dX10_line0_318 : decode cX10_line0 318 = .ok (.ireturn, 1) := by decide +kernel
theorem dX10_line0_319 : decode cX10_line0 319 = .ok (.aload_n 0, 1) := by decide +kernel
theorem dX10_line0_320 : decode cX10_line0 320 = .ok (.getfield 41, 3) := by decide +kernel
theorem dX10_line0_323 : decode cX10_line0 323 = .ok (.bipush 56, 2) := by decide +kernel
theorem dX10_line0_325 : decode cX10_line0 325 = .ok (.iload_n 2, 1) := by decide +kernel
theorem dX10_line0_326 : decode cX10_line0 326 = .ok (.iadd, 1) := by decide +kernel
theorem dX10_line0_327 : decode cX10_line0 327 = .ok (.aload_n 0, 1) := by decide +kernel
theorem dX10_line0_328 : decode cX10_line0 328 = .ok (.getfield 215, 3) := by decide +kernel
theorem dX10_line0_331 : decode cX10_line0 331 = .ok (.iastore, 1) := by decide +kernel
theorem dX10_line0_332 : decode cX10_line0 332 = .ok (.aload_n 0, 1) := by decide +kernel
theorem dX10_line0_333 : decode cX10_line0 333 = .ok (.iconst 0, 1) := by decide +kernel
theorem dX10_line0_334 : decode cX10_line0 334 = .ok (.bipush 9, 2) := by decide +kernel
theorem dX10_line0_336 : decode cX10_line0 336 = .ok (.invokevirtual 242, 3) := by decide +kernel
theorem dX10_line0_339 : decode cX10_line0 339 = .ok (.ifCond .ne 5, 3) := by decide +kernel
theorem dX10_line0_342 : decode cX10_line0 342 = .ok (.iconst 0, 1) := by decide +kernel
theorem dX10_line0_343 : decode cX10_line0 343 = .ok (.ireturn, 1) := by decide +kernel
theorem dX10_line0_344 : decode cX10_line0 344 = .ok (.aload_n 0, 1) := by decide +kernel
theorem dX10_line0_345 : decode cX10_line0 345 = .ok (.getfield 41, 3) := by decide +kernel
theorem dX10_line0_348 : decode cX10_line0 348 = .ok (.bipush 68, 2) := by decide +kernel
theorem dX10_line0_350 : decode cX10_line0 350 = .ok (.iload_n 2, 1) := by decide +kernel
theorem dX10_line0_351 : decode cX10_line0 351 = .ok (.iadd, 1) := by decide +kernel
theorem dX10_line0_352 : decode cX10_line0 352 = .ok (.aload_n 0, 1) := by decide +kernel
theorem dX10_line0_353 : decode cX10_line0 353 = .ok (.getfield 215, 3) := by decide +kernel
theorem dX10_line0_356 : decode cX10_line0 356 = .ok (.iastore, 1) := by decide +kernel
theorem dX10_line0_357 : decode cX10_line0 357 = .ok (.aload_n 0, 1) := by decide +kernel
theorem dX10_line0_358 : decode cX10_line0 358 = .ok (.iconst 1, 1) := by decide +kernel
theorem dX10_line0_359 : decode cX10_line0 359 = .ok (.bipush 99, 2) := by decide +kernel
theorem dX10_line0_361 : decode cX10_line0 361 = .ok (.invokevirtual 242, 3) := by decide +kernel
theorem dX10_line0_364 : decode cX10_line0 364 = .ok (.ifCond .ne 5, 3) := by decide +kernel
theorem dX10_line0_367 : decode cX10_line0 367 = .ok (.iconst 0, 1) := by decide +kernel
theorem dX10_line0_368 : decode cX10_line0 368 = .ok (.ireturn, 1) := by decide +kernel
theorem dX10_line0_369 : decode cX10_line0 369 = .ok (.aload_n 0, 1) := by decide +kernel
theorem dX10_line0_370 : decode cX10_line0 370 = .ok (.getfield 41, 3) := by decide +kernel
theorem dX10_line0_373 : decode cX10_line0 373 = .ok (.bipush 80, 2) := by decide +kernel
theorem dX10_line0_375 : decode cX10_line0 375 = .ok (.iload_n 2, 1) := by decide +kernel
theorem dX10_line0_376 : decode cX10_line0 376 = .ok (.iadd, 1) := by decide +kernel
theorem dX10_line0_377 : decode cX10_line0 377 = .ok (.aload_n 0, 1) := by decide +kernel
theorem dX10_line0_378 : decode cX10_line0 378 = .ok (.getfield 215, 3) := by decide +kernel
theorem dX10_line0_381 : decode cX10_line0 381 = .ok (.iastore, 1) := by decide +kernel
theorem dX10_line0_382 : decode cX10_line0 382 = .ok (.aload_n 0, 1) := by decide +kernel
theorem dX10_line0_383 : decode cX10_line0 383 = .ok (.getfield 41, 3) := by decide +kernel
theorem dX10_line0_386 : decode cX10_line0 386 = .ok (.bipush 6, 2) := by decide +kernel
theorem dX10_line0_388 : decode cX10_line0 388 = .ok (.dup2, 1) := by decide +kernel
theorem dX10_line0_389 : decode cX10_line0 389 = .ok (.iaload, 1) := by decide +kernel
theorem dX10_line0_390 : decode cX10_line0 390 = .ok (.iconst 1, 1) := by decide +kernel
theorem dX10_line0_391 : decode cX10_line0 391 = .ok (.iadd, 1) := by decide +kernel
theorem dX10_line0_392 : decode cX10_line0 392 = .ok (.iastore, 1) := by decide +kernel
theorem dX10_line0_393 : decode cX10_line0 393 = .ok (.iconst 1, 1) := by decide +kernel
theorem dX10_line0_394 : decode cX10_line0 394 = .ok (.ireturn, 1) := by decide +kernel
theorem dX10_line0_395 : decode cX10_line0 395 = .ok (.aload_n 0, 1) := by decide +kernel
theorem dX10_line0_396 : decode cX10_line0 396 = .ok (.ldc2_w 134, 3) := by decide +kernel
theorem dX10_line0_399 : decode cX10_line0 399 = .ok (.invokevirtual 225, 3) := by decide +kernel
theorem dX10_line0_402 : decode cX10_line0 402 = .ok (.ifCond .ne 9, 3) := by decide +kernel
theorem dX10_line0_405 : decode cX10_line0 405 = .ok (.aload_n 0, 1) := by decide +kernel
theorem dX10_line0_406 : decode cX10_line0 406 = .ok (.iconst 1, 1) := by decide +kernel
theorem dX10_line0_407 : decode cX10_line0 407 = .ok (.invokevirtual 205, 3) := by decide +kernel
theorem dX10_line0_410 : decode cX10_line0 410 = .ok (.ireturn, 1) := by decide +kernel
theorem dX10_line0_411 : decode cX10_line0 411 = .ok (.aload_n 0, 1) := by decide +kernel
theorem dX10_line0_412 : decode cX10_line0 412 = .ok (.getfield 41, 3) := by decide +kernel
theorem dX10_line0_415 : decode cX10_line0 415 = .ok (.bipush 7, 2) := by decide +kernel
theorem dX10_line0_417 : decode cX10_line0 417 = .ok (.iaload, 1) := by decide +kernel
theorem dX10_line0_418 : decode cX10_line0 418 = .ok (.istore_n 2, 1) := by decide +kernel
theorem dX10_line0_419 : decode cX10_line0 419 = .ok (.iload_n 2, 1) := by decide +kernel
theorem dX10_line0_420 : decode cX10_line0 420 = .ok (.bipush 6, 2) := by decide +kernel
theorem dX10_line0_422 : decode cX10_line0 422 = .ok (.if_icmp .ne 9, 3) := by decide +kernel
theorem dX10_line0_425 : decode cX10_line0 425 = .ok (.aload_n 0, 1) := by decide +kernel
theorem dX10_line0_426 : decode cX10_line0 426 = .ok (.iconst 4, 1) := by decide +kernel
theorem dX10_line0_427 : decode cX10_line0 427 = .ok (.invokevirtual 205, 3) := by decide +kernel
theorem dX10_line0_430 : decode cX10_line0 430 = .ok (.ireturn, 1) := by decide +kernel
theorem dX10_line0_431 : decode cX10_line0 431 = .ok (.aload_n 0, 1) := by decide +kernel
theorem dX10_line0_432 : decode cX10_line0 432 = .ok (.invokevirtual 208, 3) := by decide +kernel
theorem dX10_line0_435 : decode cX10_line0 435 = .ok (.aload_n 0, 1) := by decide +kernel
theorem dX10_line0_436 : decode cX10_line0 436 = .ok (.bipush 30, 2) := by decide +kernel
theorem dX10_line0_438 : decode cX10_line0 438 = .ok (.iload_n 2, 1) := by decide +kernel
theorem dX10_line0_439 : decode cX10_line0 439 = .ok (.iadd, 1) := by decide +kernel
theorem dX10_line0_440 : decode cX10_line0 440 = .ok (.invokevirtual 245, 3) := by decide +kernel
theorem dX10_line0_443 : decode cX10_line0 443 = .ok (.ifCond .ne 5, 3) := by decide +kernel
theorem dX10_line0_446 : decode cX10_line0 446 = .ok (.iconst 0, 1) := by decide +kernel
theorem dX10_line0_447 : decode cX10_line0 447 = .ok (.ireturn, 1) := by decide +kernel
theorem dX10_line0_448 : decode cX10_line0 448 = .ok (.aload_n 0, 1) := by decide +kernel
theorem dX10_line0_449 : decode cX10_line0 449 = .ok (.iconst 0, 1) := by decide +kernel
theorem dX10_line0_450 : decode cX10_line0 450 = .ok (.bipush 20, 2) := by decide +kernel
theorem dX10_line0_452 : decode cX10_line0 452 = .ok (.invokevirtual 242, 3) := by decide +kernel
theorem dX10_line0_455 : decode cX10_line0 455 = .ok (.ifCond .ne 5, 3) := by decide +kernel
theorem dX10_line0_458 : decode cX10_line0 458 = .ok (.iconst 0, 1) := by decide +kernel
theorem dX10_line0_459 : decode cX10_line0 459 = .ok (.ireturn, 1) := by decide +kernel
theorem dX10_line0_460 : decode cX10_line0 460 = .ok (.aload_n 0, 1) := by decide +kernel
theorem dX10_line0_461 : decode cX10_line0 461 = .ok (.getfield 41, 3) := by decide +kernel
theorem dX10_line0_464 : decode cX10_line0 464 = .ok (.bipush 92, 2) := by decide +kernel
theorem dX10_line0_466 : decode cX10_line0 466 = .ok (.iload_n 2, 1) := by decide +kernel
theorem dX10_line0_467 : decode cX10_line0 467 = .ok (.iadd, 1) := by decide +kernel
theorem dX10_line0_468 : decode cX10_line0 468 = .ok (.aload_n 0, 1) := by decide +kernel
theorem dX10_line0_469 : decode cX10_line0 469 = .ok (.getfield 215, 3) := by decide +kernel
theorem dX10_line0_472 : decode cX10_line0 472 = .ok (.iastore, 1) := by decide +kernel
theorem dX10_line0_473 : decode cX10_line0 473 = .ok (.aload_n 0, 1) := by decide +kernel
theorem dX10_line0_474 : decode cX10_line0 474 = .ok (.iconst 0, 1) := by decide +kernel
theorem dX10_line0_475 : decode cX10_line0 475 = .ok (.bipush 9, 2) := by decide +kernel
theorem dX10_line0_477 : decode cX10_line0 477 = .ok (.invokevirtual 242, 3) := by decide +kernel
theorem dX10_line0_480 : decode cX10_line0 480 = .ok (.ifCond .ne 5, 3) := by decide +kernel
theorem dX10_line0_483 : decode cX10_line0 483 = .ok (.iconst 0, 1) := by decide +kernel
theorem dX10_line0_484 : decode cX10_line0 484 = .ok (.ireturn, 1) := by decide +kernel
theorem dX10_line0_485 : decode cX10_line0 485 = .ok (.aload_n 0, 1) := by decide +kernel
theorem dX10_line0_486 : decode cX10_line0 486 = .ok (.getfield 41, 3) := by decide +kernel
theorem dX10_line0_489 : decode cX10_line0 489 = .ok (.bipush 98, 2) := by decide +kernel
theorem dX10_line0_491 : decode cX10_line0 491 = .ok (.iload_n 2, 1) := by decide +kernel
theorem dX10_line0_492 : decode cX10_line0 492 = .ok (.iadd, 1) := by decide +kernel
theorem dX10_line0_493 : decode cX10_line0 493 = .ok (.aload_n 0, 1) := by decide +kernel
theorem dX10_line0_494 : decode cX10_line0 494 = .ok (.getfield 215, 3) := by decide +kernel
theorem dX10_line0_497 : decode cX10_line0 497 = .ok (.iastore, 1) := by decide +kernel
theorem dX10_line0_498 : decode cX10_line0 498 = .ok (.aload_n 0, 1) := by decide +kernel
theorem dX10_line0_499 : decode cX10_line0 499 = .ok (.getfield 41, 3) := by decide +kernel
theorem dX10_line0_502 : decode cX10_line0 502 = .ok (.bipush 7, 2) := by decide +kernel
theorem dX10_line0_504 : decode cX10_line0 504 = .ok (.dup2, 1) := by decide +kernel
theorem dX10_line0_505 : decode cX10_line0 505 = .ok (.iaload, 1) := by decide +kernel
theorem dX10_line0_506 : decode cX10_line0 506 = .ok (.iconst 1, 1) := by decide +kernel
theorem dX10_line0_507 : decode cX10_line0 507 = .ok (.iadd, 1) := by decide +kernel
theorem dX10_line0_508 : decode cX10_line0 508 = .ok (.iastore, 1) := by decide +kernel
theorem dX10_line0_509 : decode cX10_line0 509 = .ok (.iconst 1, 1) := by decide +kernel
theorem dX10_line0_510 : decode cX10_line0 510 = .ok (.ireturn, 1) := by decide +kernel
theorem dX10_course_0 : decode cX10_course 0 = .ok (.aload_n 0, 1) := by decide +kernel
theorem dX10_course_1 : decode cX10_course 1 = .ok (.iconst 0, 1) := by decide +kernel
theorem dX10_course_2 : decode cX10_course 2 = .ok (.putfield 1, 3) := by decide +kernel
theorem dX10_course_5 : decode cX10_course 5 = .ok (.aload_n 0, 1) := by decide +kernel
theorem dX10_course_6 : decode cX10_course 6 = .ok (.sipush 900, 3) := by decide +kernel
theorem dX10_course_9 : decode cX10_course 9 = .ok (.invokevirtual 248, 3) := by decide +kernel
theorem dX10_course_12 : decode cX10_course 12 = .ok (.aload_n 0, 1) := by decide +kernel
theorem dX10_course_13 : decode cX10_course 13 = .ok (.iconst 0, 1) := by decide +kernel
theorem dX10_course_14 : decode cX10_course 14 = .ok (.putfield 196, 3) := by decide +kernel
theorem dX10_course_17 : decode cX10_course 17 = .ok (.aload_n 0, 1) := by decide +kernel
theorem dX10_course_18 : decode cX10_course 18 = .ok (.iconst 0, 1) := by decide +kernel
theorem dX10_course_19 : decode cX10_course 19 = .ok (.putfield 251, 3) := by decide +kernel
theorem dX10_course_22 : decode cX10_course 22 = .ok (.aload_n 0, 1) := by decide +kernel
theorem dX10_course_23 : decode cX10_course 23 = .ok (.iconst 0, 1) := by decide +kernel
theorem dX10_course_24 : decode cX10_course 24 = .ok (.putfield 229, 3) := by decide +kernel
theorem dX10_course_27 : decode cX10_course 27 = .ok (.aload_n 0, 1) := by decide +kernel
theorem dX10_course_28 : decode cX10_course 28 = .ok (.invokevirtual 166, 3) := by decide +kernel
theorem dX10_course_31 : decode cX10_course 31 = .ok (.aload_n 0, 1) := by decide +kernel
theorem dX10_course_32 : decode cX10_course 32 = .ok (.invokevirtual 208, 3) := by decide +kernel
theorem dX10_course_35 : decode cX10_course 35 = .ok (.aload_n 0, 1) := by decide +kernel
theorem dX10_course_36 : decode cX10_course 36 = .ok (.getfield 179, 3) := by decide +kernel
theorem dX10_course_39 : decode cX10_course 39 = .ok (.ifCond .eq 39, 3) := by decide +kernel
theorem dX10_course_42 : decode cX10_course 42 = .ok (.aload_n 0, 1) := by decide +kernel
theorem dX10_course_43 : decode cX10_course 43 = .ok (.invokevirtual 254, 3) := by decide +kernel
theorem dX10_course_46 : decode cX10_course 46 = .ok (.ifCond .eq 12, 3) := by decide +kernel
theorem dX10_course_49 : decode cX10_course 49 = .ok (.aload_n 0, 1) := by decide +kernel
theorem dX10_course_50 : decode cX10_course 50 = .ok (.bipush 59, 2) := by decide +kernel
theorem dX10_course_52 : decode cX10_course 52 = .ok (.invokevirtual 257, 3) := by decide +kernel
theorem dX10_course_55 : decode cX10_course 55 = .ok (.ifCond .ne 10, 3) := by decide +kernel
theorem dX10_course_58 : decode cX10_course 58 = .ok (.iconst (-1), 1) := by decide +kernel
theorem dX10_course_59 : decode cX10_course 59 = .ok (.aload_n 0, 1) := by decide +kernel
theorem dX10_course_60 : decode cX10_course 60 = .ok (.getfield 199, 3) := by decide +kernel
theorem dX10_course_63 : decode cX10_course 63 = .ok (.isub, 1) := by decide +kernel
theorem dX10_course_64 : decode cX10_course 64 = .ok (.ireturn, 1) := by decide +kernel
theorem dX10_course_65 : decode cX10_course 65 = .ok (.aload_n 0, 1) := by decide +kernel
theorem dX10_course_66 : decode cX10_course 66 = .ok (.dup, 1) := by decide +kernel
theorem dX10_course_67 : decode cX10_course 67 = .ok (.getfield 251, 3) := by decide +kernel
theorem dX10_course_70 : decode cX10_course 70 = .ok (.iconst 1, 1) := by decide +kernel
theorem dX10_course_71 : decode cX10_course 71 = .ok (.iadd, 1) := by decide +kernel
theorem dX10_course_72 : decode cX10_course 72 = .ok (.putfield 251, 3) := by decide +kernel
theorem dX10_course_75 : decode cX10_course 75 = .ok (.goto (-40), 3) := by decide +kernel
theorem dX10_course_78 : decode cX10_course 78 = .ok (.iconst 0, 1) := by decide +kernel
theorem dX10_course_79 : decode cX10_course 79 = .ok (.istore_n 1, 1) := by decide +kernel
theorem dX10_course_80 : decode cX10_course 80 = .ok (.iload_n 1, 1) := by decide +kernel
theorem dX10_course_81 : decode cX10_course 81 = .ok (.sipush 335, 3) := by decide +kernel
theorem dX10_course_84 : decode cX10_course 84 = .ok (.if_icmp .ge 31, 3) := by decide +kernel
theorem dX10_course_87 : decode cX10_course 87 = .ok (.aload_n 0, 1) := by decide +kernel
theorem dX10_course_88 : decode cX10_course 88 = .ok (.getfield 37, 3) := by decide +kernel
theorem dX10_course_91 : decode cX10_course 91 = .ok (.iload_n 1, 1) := by decide +kernel
theorem dX10_course_92 : decode cX10_course 92 = .ok (.iload_n 1, 1) := by decide +kernel
theorem dX10_course_93 : decode cX10_course 93 = .ok (.bipush 104, 2) := by decide +kernel
theorem dX10_course_95 : decode cX10_course 95 = .ok (.if_icmp .ge 12, 3) := by decide +kernel
theorem dX10_course_98 : decode cX10_course 98 = .ok (.aload_n 0, 1) := by decide +kernel
theorem dX10_course_99 : decode cX10_course 99 = .ok (.getfield 41, 3) := by decide +kernel
theorem dX10_course_102 : decode cX10_course 102 = .ok (.iload_n 1, 1) := by decide +kernel
theorem dX10_course_103 : decode cX10_course 103 = .ok (.iaload, 1) := by decide +kernel
theorem dX10_course_104 : decode cX10_course 104 = .ok (.goto 4, 3) := by decide +kernel
theorem dX10_course_107 : decode cX10_course 107 = .ok (.iconst 0, 1) := by decide +kernel
theorem dX10_course_108 : decode cX10_course 108 = .ok (.iastore, 1) := by decide +kernel
theorem dX10_course_109 : decode cX10_course 109 = .ok (.iinc 1 1, 3) := by decide +kernel
theorem dX10_course_112 : decode cX10_course 112 = .ok (.goto (-32), 3) := by decide +kernel
theorem dX10_course_115 : decode cX10_course 115 = .ok (.iconst 0, 1) := by decide +kernel
theorem dX10_course_116 : decode cX10_course 116 = .ok (.istore_n 1, 1) := by decide +kernel
theorem dX10_course_117 : decode cX10_course 117 = .ok (.iload_n 1, 1) := by decide +kernel
theorem dX10_course_118 : decode cX10_course 118 = .ok (.bipush 18, 2) := by decide +kernel
theorem dX10_course_120 : decode cX10_course 120 = .ok (.if_icmp .ge 24, 3) := by decide +kernel
theorem dX10_course_123 : decode cX10_course 123 = .ok (.aload_n 0, 1) := by decide +kernel
theorem dX10_course_124 : decode cX10_course 124 = .ok (.getfield 47, 3) := by decide +kernel
theorem dX10_course_127 : decode cX10_course 127 = .ok (.iload_n 1, 1) := by decide +kernel
theorem dX10_course_128 : decode cX10_course 128 = .ok (.aload_n 0, 1) := by decide +kernel
theorem dX10_course_129 : decode cX10_course 129 = .ok (.getfield 47, 3) := by decide +kernel
theorem dX10_course_132 : decode cX10_course 132 = .ok (.bipush 18, 2) := by decide +kernel
theorem dX10_course_134 : decode cX10_course 134 = .ok (.iload_n 1, 1) := by decide +kernel
theorem dX10_course_135 : decode cX10_course 135 = .ok (.iadd, 1) := by decide +kernel
theorem dX10_course_136 : decode cX10_course 136 = .ok (.laload, 1) := by decide +kernel
theorem dX10_course_137 : decode cX10_course 137 = .ok (.lastore, 1) := by decide +kernel
theorem dX10_course_138 : decode cX10_course 138 = .ok (.iinc 1 1, 3) := by decide +kernel
theorem dX10_course_141 : decode cX10_course 141 = .ok (.goto (-24), 3) := by decide +kernel
theorem dX10_course_144 : decode cX10_course 144 = .ok (.aload_n 0, 1) := by decide +kernel
theorem dX10_course_145 : decode cX10_course 145 = .ok (.dup, 1) := by decide +kernel
theorem dX10_course_146 : decode cX10_course 146 = .ok (.getfield 260, 3) := by decide +kernel
theorem dX10_course_149 : decode cX10_course 149 = .ok (.iconst 1, 1) := by decide +kernel
theorem dX10_course_150 : decode cX10_course 150 = .ok (.iadd, 1) := by decide +kernel
theorem dX10_course_151 : decode cX10_course 151 = .ok (.putfield 260, 3) := by decide +kernel
theorem dX10_course_154 : decode cX10_course 154 = .ok (.aload_n 0, 1) := by decide +kernel
theorem dX10_course_155 : decode cX10_course 155 = .ok (.getfield 37, 3) := by decide +kernel
theorem dX10_course_158 : decode cX10_course 158 = .ok (.sipush 334, 3) := by decide +kernel
theorem dX10_course_161 : decode cX10_course 161 = .ok (.aload_n 0, 1) := by decide +kernel
theorem dX10_course_162 : decode cX10_course 162 = .ok (.getfield 260, 3) := by decide +kernel
theorem dX10_course_165 : decode cX10_course 165 = .ok (.iastore, 1) := by decide +kernel
theorem dX10_course_166 : decode cX10_course 166 = .ok (.aload_n 0, 1) := by decide +kernel
theorem dX10_course_167 : decode cX10_course 167 = .ok (.getfield 37, 3) := by decide +kernel
theorem dX10_course_170 : decode cX10_course 170 = .ok (.bipush 115, 2) := by decide +kernel
theorem dX10_course_172 : decode cX10_course 172 = .ok (.iconst 1, 1) := by decide +kernel
theorem dX10_course_173 : decode cX10_course 173 = .ok (.iastore, 1) := by decide +kernel
theorem dX10_course_174 : decode cX10_course 174 = .ok (.iconst 0, 1) := by decide +kernel
theorem dX10_course_175 : decode cX10_course 175 = .ok (.istore_n 1, 1) := by decide +kernel
theorem dX10_course_176 : decode cX10_course 176 = .ok (.iload_n 1, 1) := by decide +kernel
theorem dX10_course_177 : decode cX10_course 177 = .ok (.aload_n 0, 1) := by decide +kernel
theorem dX10_course_178 : decode cX10_course 178 = .ok (.getfield 37, 3) := by decide +kernel
theorem dX10_course_181 : decode cX10_course 181 = .ok (.bipush 6, 2) := by decide +kernel
theorem dX10_course_183 : decode cX10_course 183 = .ok (.iaload, 1) := by decide +kernel
theorem dX10_course_184 : decode cX10_course 184 = .ok (.if_icmp .ge 27, 3) := by decide +kernel
theorem dX10_course_187 : decode cX10_course 187 = .ok (.aload_n 0, 1) := by decide +kernel
theorem dX10_course_188 : decode cX10_course 188 = .ok (.getfield 37, 3) := by decide +kernel
theorem dX10_course_191 : decode cX10_course 191 = .ok (.bipush 116, 2) := by decide +kernel
theorem dX10_course_193 : decode cX10_course 193 = .ok (.iload_n 1, 1) := by decide +kernel
theorem dX10_course_194 : decode cX10_course 194 = .ok (.iadd, 1) := by decide +kernel
theorem dX10_course_195 : decode cX10_course 195 = .ok (.aload_n 0, 1) := by decide +kernel
theorem dX10_course_196 : decode cX10_course 196 = .ok (.getfield 37, 3) := by decide +kernel
theorem dX10_course_199 : decode cX10_course 199 = .ok (.bipush 68, 2) := by decide +kernel
theorem dX10_course_201 : decode cX10_course 201 = .ok (.iload_n 1, 1) := by decide +kernel
theorem dX10_course_202 : decode cX10_course 202 = .ok (.iadd, 1) := by decide +kernel
theorem dX10_course_203 : decode cX10_course 203 = .ok (.iaload, 1) := by decide +kernel
theorem dX10_course_204 : decode cX10_course 204 = .ok (.iastore, 1) := by decide +kernel
theorem dX10_course_205 : decode cX10_course 205 = .ok (.iinc 1 1, 3) := by decide +kernel
theorem dX10_course_208 : decode cX10_course 208 = .ok (.goto (-32), 3) := by decide +kernel
theorem dX10_course_211 : decode cX10_course 211 = .ok (.aload_n 0, 1) := by decide +kernel
theorem dX10_course_212 : decode cX10_course 212 = .ok (.iconst 0, 1) := by decide +kernel
theorem dX10_course_213 : decode cX10_course 213 = .ok (.putfield 263, 3) := by decide +kernel
theorem dX10_course_216 : decode cX10_course 216 = .ok (.aload_n 0, 1) := by decide +kernel
theorem dX10_course_217 : decode cX10_course 217 = .ok (.getfield 251, 3) := by decide +kernel
theorem dX10_course_220 : decode cX10_course 220 = .ok (.ireturn, 1) := by decide +kernel
theorem dX10_fault_0 : decode cX10_fault 0 = .ok (.aload_n 0, 1) := by decide +kernel
theorem dX10_fault_1 : decode cX10_fault 1 = .ok (.iconst 0, 1) := by decide +kernel
theorem dX10_fault_2 : decode cX10_fault 2 = .ok (.putfield 1, 3) := by decide +kernel
theorem dX10_fault_5 : decode cX10_fault 5 = .ok (.aload_n 0, 1) := by decide +kernel
theorem dX10_fault_6 : decode cX10_fault 6 = .ok (.getfield 196, 3) := by decide +kernel
theorem dX10_fault_9 : decode cX10_fault 9 = .ok (.ireturn, 1) := by decide +kernel
theorem dX10_looksAtMan_0 : decode cX10_looksAtMan 0 = .ok (.aload_n 0, 1) := by decide +kernel
theorem dX10_looksAtMan_1 : decode cX10_looksAtMan 1 = .ok (.invokevirtual 218, 3) := by decide +kernel
theorem dX10_looksAtMan_4 : decode cX10_looksAtMan 4 = .ok (.ifCond .ne 9, 3) := by decide +kernel
theorem dX10_looksAtMan_7 : decode cX10_looksAtMan 7 = .ok (.aload_n 0, 1) := by decide +kernel
theorem dX10_looksAtMan_8 : decode cX10_looksAtMan 8 = .ok (.iconst 1, 1) := by decide +kernel
theorem dX10_looksAtMan_9 : decode cX10_looksAtMan 9 = .ok (.invokevirtual 205, 3) := by decide +kernel
theorem dX10_looksAtMan_12 : decode cX10_looksAtMan 12 = .ok (.ireturn, 1) := by decide +kernel
theorem dX10_looksAtMan_13 : decode cX10_looksAtMan 13 = .ok (.aload_n 0, 1) := by decide +kernel
theorem dX10_looksAtMan_14 : decode cX10_looksAtMan 14 = .ok (.aload_n 0, 1) := by decide +kernel
theorem dX10_looksAtMan_15 : decode cX10_looksAtMan 15 = .ok (.iconst 0, 1) := by decide +kernel
theorem dX10_looksAtMan_16 : decode cX10_looksAtMan 16 = .ok (.aload_n 0, 1) := by decide +kernel
theorem dX10_looksAtMan_17 : decode cX10_looksAtMan 17 = .ok (.getfield 37, 3) := by decide +kernel
theorem dX10_looksAtMan_20 : decode cX10_looksAtMan 20 = .ok (.iconst 5, 1) := by decide +kernel
theorem dX10_looksAtMan_21 : decode cX10_looksAtMan 21 = .ok (.iaload, 1) := by decide +kernel
theorem dX10_looksAtMan_22 : decode cX10_looksAtMan 22 = .ok (.invokevirtual 222, 3) := by decide +kernel
theorem dX10_looksAtMan_25 : decode cX10_looksAtMan 25 = .ok (.putfield 215, 3) := by decide +kernel
theorem dX10_looksAtMan_28 : decode cX10_looksAtMan 28 = .ok (.aload_n 0, 1) := by decide +kernel
theorem dX10_looksAtMan_29 : decode cX10_looksAtMan 29 = .ok (.getfield 215, 3) := by decide +kernel
theorem dX10_looksAtMan_32 : decode cX10_looksAtMan 32 = .ok (.ifCond .ge 11, 3) := by decide +kernel
theorem dX10_looksAtMan_35 : decode cX10_looksAtMan 35 = .ok (.aload_n 0, 1) := by decide +kernel
theorem dX10_looksAtMan_36 : decode cX10_looksAtMan 36 = .ok (.iconst 3, 1) := by decide +kernel
theorem dX10_looksAtMan_37 : decode cX10_looksAtMan 37 = .ok (.invokevirtual 205, 3) := by decide +kernel
theorem dX10_looksAtMan_40 : decode cX10_looksAtMan 40 = .ok (.ifCond .eq 7, 3) := by decide +kernel
theorem dX10_looksAtMan_43 : decode cX10_looksAtMan 43 = .ok (.iconst 1, 1) := by decide +kernel
theorem dX10_looksAtMan_44 : decode cX10_looksAtMan 44 = .ok (.goto 4, 3) := by decide +kernel
theorem dX10_looksAtMan_47 : decode cX10_looksAtMan 47 = .ok (.iconst 0, 1) := by decide +kernel
theorem dX10_looksAtMan_48 : decode cX10_looksAtMan 48 = .ok (.ireturn, 1) := by decide +kernel
theorem dX10_placeIn_0 : decode cX10_placeIn 0 = .ok (.iconst 0, 1) := by decide +kernel
theorem dX10_placeIn_1 : decode cX10_placeIn 1 = .ok (.istore_n 3, 1) := by decide +kernel
theorem dX10_placeIn_2 : decode cX10_placeIn 2 = .ok (.iload_n 3, 1) := by decide +kernel
theorem dX10_placeIn_3 : decode cX10_placeIn 3 = .ok (.iload_n 2, 1) := by decide +kernel
theorem dX10_placeIn_4 : decode cX10_placeIn 4 = .ok (.if_icmp .ge 23, 3) := by decide +kernel
theorem dX10_placeIn_7 : decode cX10_placeIn 7 = .ok (.aload_n 0, 1) := by decide +kernel
theorem dX10_placeIn_8 : decode cX10_placeIn 8 = .ok (.getfield 54, 3) := by decide +kernel
theorem dX10_placeIn_11 : decode cX10_placeIn 11 = .ok (.iconst 1, 1) := by decide +kernel
theorem dX10_placeIn_12 : decode cX10_placeIn 12 = .ok (.iload_n 3, 1) := by decide +kernel
theorem dX10_placeIn_13 : decode cX10_placeIn 13 = .ok (.iadd, 1) := by decide +kernel
theorem dX10_placeIn_14 : decode cX10_placeIn 14 = .ok (.iaload, 1) := by decide +kernel
theorem dX10_placeIn_15 : decode cX10_placeIn 15 = .ok (.iload_n 1, 1) := by decide +kernel
theorem dX10_placeIn_16 : decode cX10_placeIn 16 = .ok (.if_icmp .ne 5, 3) := by decide +kernel
theorem dX10_placeIn_19 : decode cX10_placeIn 19 = .ok (.iload_n 3, 1) := by decide +kernel
theorem dX10_placeIn_20 : decode cX10_placeIn 20 = .ok (.ireturn, 1) := by decide +kernel
theorem dX10_placeIn_21 : decode cX10_placeIn 21 = .ok (.iinc 3 1, 3) := by decide +kernel
theorem dX10_placeIn_24 : decode cX10_placeIn 24 = .ok (.goto (-22), 3) := by decide +kernel
theorem dX10_placeIn_27 : decode cX10_placeIn 27 = .ok (.iconst (-1), 1) := by decide +kernel
theorem dX10_placeIn_28 : decode cX10_placeIn 28 = .ok (.ireturn, 1) := by decide +kernel
theorem dX10_planLine_0 : decode cX10_planLine 0 = .ok (.aload_n 0, 1) := by decide +kernel
theorem dX10_planLine_1 : decode cX10_planLine 1 = .ok (.ldc2_w 136, 3) := by decide +kernel
theorem dX10_planLine_4 : decode cX10_planLine 4 = .ok (.invokevirtual 225, 3) := by decide +kernel
theorem dX10_planLine_7 : decode cX10_planLine 7 = .ok (.ifCond .eq 78, 3) := by decide +kernel
theorem dX10_planLine_10 : decode cX10_planLine 10 = .ok (.aload_n 0, 1) := by decide +kernel
theorem dX10_planLine_11 : decode cX10_planLine 11 = .ok (.iconst 0, 1) := by decide +kernel
theorem dX10_planLine_12 : decode cX10_planLine 12 = .ok (.invokevirtual 239, 3) := by decide +kernel
theorem dX10_planLine_15 : decode cX10_planLine 15 = .ok (.ifCond .ne 5, 3) := by decide +kernel
theorem dX10_planLine_18 : decode cX10_planLine 18 = .ok (.iconst 0, 1) := by decide +kernel
theorem dX10_planLine_19 : decode cX10_planLine 19 = .ok (.ireturn, 1) := by decide +kernel
theorem dX10_planLine_20 : decode cX10_planLine 20 = .ok (.iconst 0, 1) := by decide +kernel
theorem dX10_planLine_21 : decode cX10_planLine 21 = .ok (.istore_n 1, 1) := by decide +kernel
theorem dX10_planLine_22 : decode cX10_planLine 22 = .ok (.iload_n 1, 1) := by decide +kernel
theorem dX10_planLine_23 : decode cX10_planLine 23 = .ok (.iconst 4, 1) := by decide +kernel
theorem dX10_planLine_24 : decode cX10_planLine 24 = .ok (.if_icmp .ge 52, 3) := by decide +kernel
theorem dX10_planLine_27 : decode cX10_planLine 27 = .ok (.aload_n 0, 1) := by decide +kernel
theorem dX10_planLine_28 : decode cX10_planLine 28 = .ok (.invokevirtual 266, 3) := by decide +kernel
theorem dX10_planLine_31 : decode cX10_planLine 31 = .ok (.ifCond .ne 5, 3) := by decide +kernel
theorem dX10_planLine_34 : decode cX10_planLine 34 = .ok (.iconst 0, 1) := by decide +kernel
theorem dX10_planLine_35 : decode cX10_planLine 35 = .ok (.ireturn, 1) := by decide +kernel
theorem dX10_planLine_36 : decode cX10_planLine 36 = .ok (.aload_n 0, 1) := by decide +kernel
theorem dX10_planLine_37 : decode cX10_planLine 37 = .ok (.aload_n 0, 1) := by decide +kernel
theorem dX10_planLine_38 : decode cX10_planLine 38 = .ok (.getfield 215, 3) := by decide +kernel
theorem dX10_planLine_41 : decode cX10_planLine 41 = .ok (.iload_n 1, 1) := by decide +kernel
theorem dX10_planLine_42 : decode cX10_planLine 42 = .ok (.invokevirtual 269, 3) := by decide +kernel
theorem dX10_planLine_45 : decode cX10_planLine 45 = .ok (.ifCond .lt 9, 3) := by decide +kernel
theorem dX10_planLine_48 : decode cX10_planLine 48 = .ok (.aload_n 0, 1) := by decide +kernel
theorem dX10_planLine_49 : decode cX10_planLine 49 = .ok (.iconst 3, 1) := by decide +kernel
theorem dX10_planLine_50 : decode cX10_planLine 50 = .ok (.invokevirtual 205, 3) := by decide +kernel
theorem dX10_planLine_53 : decode cX10_planLine 53 = .ok (.ireturn, 1) := by decide +kernel
theorem dX10_planLine_54 : decode cX10_planLine 54 = .ok (.aload_n 0, 1) := by decide +kernel
theorem dX10_planLine_55 : decode cX10_planLine 55 = .ok (.getfield 54, 3) := by decide +kernel
theorem dX10_planLine_58 : decode cX10_planLine 58 = .ok (.iconst 1, 1) := by decide +kernel
theorem dX10_planLine_59 : decode cX10_planLine 59 = .ok (.iload_n 1, 1) := by decide +kernel
theorem dX10_planLine_60 : decode cX10_planLine 60 = .ok (.iadd, 1) := by decide +kernel
theorem dX10_planLine_61 : decode cX10_planLine 61 = .ok (.aload_n 0, 1) := by decide +kernel
theorem dX10_planLine_62 : decode cX10_planLine 62 = .ok (.getfield 215, 3) := by decide +kernel
theorem dX10_planLine_65 : decode cX10_planLine 65 = .ok (.iastore, 1) := by decide +kernel
theorem dX10_planLine_66 : decode cX10_planLine 66 = .ok (.aload_n 0, 1) := by decide +kernel
theorem dX10_planLine_67 : decode cX10_planLine 67 = .ok (.invokevirtual 208, 3) := by decide +kernel
theorem dX10_planLine_70 : decode cX10_planLine 70 = .ok (.iinc 1 1, 3) := by decide +kernel
theorem dX10_planLine_73 : decode cX10_planLine 73 = .ok (.goto (-51), 3) := by decide +kernel
theorem dX10_planLine_76 : decode cX10_planLine 76 = .ok (.aload_n 0, 1) := by decide +kernel
theorem dX10_planLine_77 : decode cX10_planLine 77 = .ok (.getfield 54, 3) := by decide +kernel
theorem dX10_planLine_80 : decode cX10_planLine 80 = .ok (.iconst 0, 1) := by decide +kernel
theorem dX10_planLine_81 : decode cX10_planLine 81 = .ok (.iconst 1, 1) := by decide +kernel
theorem dX10_planLine_82 : decode cX10_planLine 82 = .ok (.iastore, 1) := by decide +kernel
theorem dX10_planLine_83 : decode cX10_planLine 83 = .ok (.iconst 1, 1) := by decide +kernel
theorem dX10_planLine_84 : decode cX10_planLine 84 = .ok (.ireturn, 1) := by decide +kernel
theorem dX10_planLine_85 : decode cX10_planLine 85 = .ok (.aload_n 0, 1) := by decide +kernel
theorem dX10_planLine_86 : decode cX10_planLine 86 = .ok (.ldc2_w 138, 3) := by decide +kernel
theorem dX10_planLine_89 : decode cX10_planLine 89 = .ok (.invokevirtual 225, 3) := by decide +kernel
theorem dX10_planLine_92 : decode cX10_planLine 92 = .ok (.ifCond .eq 109, 3) := by decide +kernel
theorem dX10_planLine_95 : decode cX10_planLine 95 = .ok (.aload_n 0, 1) := by decide +kernel
theorem dX10_planLine_96 : decode cX10_planLine 96 = .ok (.invokevirtual 208, 3) := by decide +kernel
theorem dX10_planLine_99 : decode cX10_planLine 99 = .ok (.aload_n 0, 1) := by decide +kernel
theorem dX10_planLine_100 : decode cX10_planLine 100 = .ok (.invokevirtual 266, 3) := by decide +kernel
theorem dX10_planLine_103 : decode cX10_planLine 103 = .ok (.ifCond .ne 5, 3) := by decide +kernel
theorem dX10_planLine_106 : decode cX10_planLine 106 = .ok (.iconst 0, 1) := by decide +kernel
theorem dX10_planLine_107 : decode cX10_planLine 107 = .ok (.ireturn, 1) := by decide +kernel
theorem dX10_planLine_108 : decode cX10_planLine 108 = .ok (.aload_n 0, 1) := by decide +kernel
theorem dX10_planLine_109 : decode cX10_planLine 109 = .ok (.getfield 54, 3) := by decide +kernel
theorem dX10_planLine_112 : decode cX10_planLine 112 = .ok (.iconst 0, 1) := by decide +kernel
theorem dX10_planLine_113 : decode cX10_planLine 113 = .ok (.iaload, 1) := by decide +kernel
theorem dX10_planLine_114 : decode cX10_planLine 114 = .ok (.iconst 1, 1) := by decide +kernel
theorem dX10_planLine_115 : decode cX10_planLine 115 = .ok (.if_icmp .ne 15, 3) := by decide +kernel
theorem dX10_planLine_118 : decode cX10_planLine 118 = .ok (.aload_n 0, 1) := by decide +kernel
theorem dX10_planLine_119 : decode cX10_planLine 119 = .ok (.aload_n 0, 1) := by decide +kernel
theorem dX10_planLine_120 : decode cX10_planLine 120 = .ok (.getfield 215, 3) := by decide +kernel
theorem dX10_planLine_123 : decode cX10_planLine 123 = .ok (.iconst 4, 1) := by decide +kernel
theorem dX10_planLine_124 : decode cX10_planLine 124 = .ok (.invokevirtual 269, 3) := by decide +kernel
theorem dX10_planLine_127 : decode cX10_planLine 127 = .ok (.goto 4, 3) := by decide +kernel
theorem dX10_planLine_130 : decode cX10_planLine 130 = .ok (.iconst (-1), 1) := by decide +kernel
theorem dX10_planLine_131 : decode cX10_planLine 131 = .ok (.istore_n 1, 1) := by decide +kernel
theorem dX10_planLine_132 : decode cX10_planLine 132 = .ok (.iload_n 1, 1) := by decide +kernel
theorem dX10_planLine_133 : decode cX10_planLine 133 = .ok (.ifCond .lt 14, 3) := by decide +kernel
theorem dX10_planLine_136 : decode cX10_planLine 136 = .ok (.aload_n 0, 1) := by decide +kernel
theorem dX10_planLine_137 : decode cX10_planLine 137 = .ok (.getfield 272, 3) := by decide +kernel
theorem dX10_planLine_140 : decode cX10_planLine 140 = .ok (.iload_n 1, 1) := by decide +kernel
theorem dX10_planLine_141 : decode cX10_planLine 141 = .ok (.invokestatic 232, 3) := by decide +kernel
theorem dX10_planLine_144 : decode cX10_planLine 144 = .ok (.ifCond .eq 9, 3) := by decide +kernel
theorem dX10_planLine_147 : decode cX10_planLine 147 = .ok (.aload_n 0, 1) := by decide +kernel
theorem dX10_planLine_148 : decode cX10_planLine 148 = .ok (.iconst 3, 1) := by decide +kernel
theorem dX10_planLine_149 : decode cX10_planLine 149 = .ok (.invokevirtual 205, 3) := by decide +kernel
theorem dX10_planLine_152 : decode cX10_planLine 152 = .ok (.ireturn, 1) := by decide +kernel
theorem dX10_planLine_153 : decode cX10_planLine 153 = .ok (.aload_n 0, 1) := by decide +kernel
theorem dX10_planLine_154 : decode cX10_planLine 154 = .ok (.dup, 1) := by decide +kernel
theorem dX10_planLine_155 : decode cX10_planLine 155 = .ok (.getfield 272, 3) := by decide +kernel
theorem dX10_planLine_158 : decode cX10_planLine 158 = .ok (.iconst 1, 1) := by decide +kernel
theorem dX10_planLine_159 : decode cX10_planLine 159 = .ok (.iload_n 1, 1) := by decide +kernel
theorem dX10_planLine_160 : decode cX10_planLine 160 = .ok (.ishl, 1) := by decide +kernel
theorem dX10_planLine_161 : decode cX10_planLine 161 = .ok (.ior, 1) := by decide +kernel
theorem dX10_planLine_162 : decode cX10_planLine 162 = .ok (.putfield 272, 3) := by decide +kernel
theorem dX10_planLine_165 : decode cX10_planLine 165 = .ok (.aload_n 0, 1) := by decide +kernel
theorem dX10_planLine_166 : decode cX10_planLine 166 = .ok (.invokevirtual 208, 3) := by decide +kernel
theorem dX10_planLine_169 : decode cX10_planLine 169 = .ok (.aload_n 0, 1) := by decide +kernel
theorem dX10_planLine_170 : decode cX10_planLine 170 = .ok (.iconst 0, 1) := by decide +kernel
theorem dX10_planLine_171 : decode cX10_planLine 171 = .ok (.aload_n 0, 1) := by decide +kernel
theorem dX10_planLine_172 : decode cX10_planLine 172 = .ok (.getfield 37, 3) := by decide +kernel
theorem dX10_planLine_175 : decode cX10_planLine 175 = .ok (.iconst 0, 1) := by decide +kernel
theorem dX10_planLine_176 : decode cX10_planLine 176 = .ok (.iaload, 1) := by decide +kernel
theorem dX10_planLine_177 : decode cX10_planLine 177 = .ok (.iconst 1, 1) := by decide +kernel
theorem dX10_planLine_178 : decode cX10_planLine 178 = .ok (.isub, 1) := by decide +kernel
theorem dX10_planLine_179 : decode cX10_planLine 179 = .ok (.invokevirtual 242, 3) := by decide +kernel
theorem dX10_planLine_182 : decode cX10_planLine 182 = .ok (.ifCond .ne 5, 3) := by decide +kernel
theorem dX10_planLine_185 : decode cX10_planLine 185 = .ok (.iconst 0, 1) := by decide +kernel
theorem dX10_planLine_186 : decode cX10_planLine 186 = .ok (.ireturn, 1) := by decide +kernel
theorem dX10_planLine_187 : decode cX10_planLine 187 = .ok (.aload_n 0, 1) := by decide +kernel
theorem dX10_planLine_188 : decode cX10_planLine 188 = .ok (.getfield 54, 3) := by decide +kernel
theorem dX10_planLine_191 : decode cX10_planLine 191 = .ok (.iconst 5, 1) := by decide +kernel
theorem dX10_planLine_192 : decode cX10_planLine 192 = .ok (.iload_n 1, 1) := by decide +kernel
theorem dX10_planLine_193 : decode cX10_planLine 193 = .ok (.iadd, 1) := by decide +kernel
theorem dX10_planLine_194 : decode cX10_planLine 194 = .ok (.aload_n 0, 1) := by decide +kernel
theorem dX10_planLine_195 : decode cX10_planLine 195 = .ok (.getfield 215, 3) := by decide +kernel
theorem dX10_planLine_198 : decode cX10_planLine 198 = .ok (.iastore, 1) := by decide +kernel
theorem dX10_planLine_199 : decode cX10_planLine 199 = .ok (.iconst 1, 1) := by decide +kernel
theorem dX10_planLine_200 : decode cX10_planLine 200 = .ok (.ireturn, 1) := by decide +kernel
theorem dX10_planLine_201 : decode cX10_planLine 201 = .ok (.aload_n 0, 1) := by decide +kernel
theorem dX10_planLine_202 : decode cX10_planLine 202 = .ok (.ldc2_w 142, 3) := by decide +kernel
theorem dX10_planLine_205 : decode cX10_planLine 205 = .ok (.invokevirtual 225, 3) := by decide +kernel
theorem dX10_planLine_208 : decode cX10_planLine 208 = .ok (.ifCond .eq 112, 3) := by decide +kernel
theorem dX10_planLine_211 : decode cX10_planLine 211 = .ok (.aload_n 0, 1) := by decide +kernel
theorem dX10_planLine_212 : decode cX10_planLine 212 = .ok (.invokevirtual 208, 3) := by decide +kernel
theorem dX10_planLine_215 : decode cX10_planLine 215 = .ok (.aload_n 0, 1) := by decide +kernel
theorem dX10_planLine_216 : decode cX10_planLine 216 = .ok (.getfield 179, 3) := by decide +kernel
theorem dX10_planLine_219 : decode cX10_planLine 219 = .ok (.iconst 2, 1) := by decide +kernel
theorem dX10_planLine_220 : decode cX10_planLine 220 = .ok (.if_icmp .eq 9, 3) := by decide +kernel
theorem dX10_planLine_223 : decode cX10_planLine 223 = .ok (.aload_n 0, 1) := by decide +kernel
theorem dX10_planLine_224 : decode cX10_planLine 224 = .ok (.iconst 1, 1) := by decide +kernel
theorem dX10_planLine_225 : decode cX10_planLine 225 = .ok (.invokevirtual 205, 3) := by decide +kernel
theorem dX10_planLine_228 : decode cX10_planLine 228 = .ok (.ireturn, 1) := by decide +kernel
theorem dX10_planLine_229 : decode cX10_planLine 229 = .ok (.aload_n 0, 1) := by decide +kernel
theorem dX10_planLine_230 : decode cX10_planLine 230 = .ok (.getfield 189, 3) := by decide +kernel
theorem dX10_planLine_233 : decode cX10_planLine 233 = .ok (.aload_n 0, 1) := by decide +kernel
theorem dX10_planLine_234 : decode cX10_planLine 234 = .ok (.getfield 37, 3) := by decide +kernel
theorem dX10_planLine_237 : decode cX10_planLine 237 = .ok (.bipush 6, 2) := by decide +kernel
theorem dX10_planLine_239 : decode cX10_planLine 239 = .ok (.iaload, 1) := by decide +kernel
theorem dX10_planLine_240 : decode cX10_planLine 240 = .ok (.if_icmp .lt 9, 3) := by decide +kernel
theorem dX10_planLine_243 : decode cX10_planLine 243 = .ok (.aload_n 0, 1) := by decide +kernel
theorem dX10_planLine_244 : decode cX10_planLine 244 = .ok (.iconst 2, 1) := by decide +kernel
theorem dX10_planLine_245 : decode cX10_planLine 245 = .ok (.invokevirtual 205, 3) := by decide +kernel
theorem dX10_planLine_248 : decode cX10_planLine 248 = .ok (.ireturn, 1) := by decide +kernel
theorem dX10_planLine_249 : decode cX10_planLine 249 = .ok (.aload_n 0, 1) := by decide +kernel
theorem dX10_planLine_250 : decode cX10_planLine 250 = .ok (.getfield 275, 3) := by decide +kernel
theorem dX10_planLine_253 : decode cX10_planLine 253 = .ok (.aload_n 0, 1) := by decide +kernel
theorem dX10_planLine_254 : decode cX10_planLine 254 = .ok (.getfield 189, 3) := by decide +kernel
theorem dX10_planLine_257 : decode cX10_planLine 257 = .ok (.invokestatic 232, 3) := by decide +kernel
theorem dX10_planLine_260 : decode cX10_planLine 260 = .ok (.ifCond .eq 9, 3) := by decide +kernel
theorem dX10_planLine_263 : decode cX10_planLine 263 = .ok (.aload_n 0, 1) := by decide +kernel
theorem dX10_planLine_264 : decode cX10_planLine 264 = .ok (.iconst 3, 1) := by decide +kernel
theorem dX10_planLine_265 : decode cX10_planLine 265 = .ok (.invokevirtual 205, 3) := by decide +kernel
theorem dX10_planLine_268 : decode cX10_planLine 268 = .ok (.ireturn, 1) := by decide +kernel
theorem dX10_planLine_269 : decode cX10_planLine 269 = .ok (.aload_n 0, 1) := by decide +kernel
theorem dX10_planLine_270 : decode cX10_planLine 270 = .ok (.dup, 1) := by decide +kernel
theorem dX10_planLine_271 : decode cX10_planLine 271 = .ok (.getfield 275, 3) := by decide +kernel
theorem dX10_planLine_274 : decode cX10_planLine 274 = .ok (.iconst 1, 1) := by decide +kernel
theorem dX10_planLine_275 : decode cX10_planLine 275 = .ok (.aload_n 0, 1) := by decide +kernel
theorem dX10_planLine_276 : decode cX10_planLine 276 = .ok (.getfield 189, 3) := by decide +kernel
theorem dX10_planLine_279 : decode cX10_planLine 279 = .ok (.ishl, 1) := by decide +kernel
theorem dX10_planLine_280 : decode cX10_planLine 280 = .ok (.ior, 1) := by decide +kernel
theorem dX10_planLine_281 : decode cX10_planLine 281 = .ok (.putfield 275, 3) := by decide +kernel
theorem dX10_planLine_284 : decode cX10_planLine 284 = .ok (.aload_n 0, 1) := by decide +kernel
theorem dX10_planLine_285 : decode cX10_planLine 285 = .ok (.getfield 189, 3) := by decide +kernel
theorem dX10_planLine_288 : decode cX10_planLine 288 = .ok (.istore_n 1, 1) := by decide +kernel
theorem dX10_planLine_289 : decode cX10_planLine 289 = .ok (.aload_n 0, 1) := by decide +kernel
theorem dX10_planLine_290 : decode cX10_planLine 290 = .ok (.invokevirtual 208, 3) := by decide +kernel
theorem dX10_planLine_293 : decode cX10_planLine 293 = .ok (.aload_n 0, 1) := by decide +kernel
theorem dX10_planLine_294 : decode cX10_planLine 294 = .ok (.iconst 0, 1) := by decide +kernel
theorem dX10_planLine_295 : decode cX10_planLine 295 = .ok (.bipush 9, 2) := by decide +kernel
theorem dX10_planLine_297 : decode cX10_planLine 297 = .ok (.invokevirtual 242, 3) := by decide +kernel
theorem dX10_planLine_300 : decode cX10_planLine 300 = .ok (.ifCond .ne 5, 3) := by decide +kernel
theorem dX10_planLine_303 : decode cX10_planLine 303 = .ok (.iconst 0, 1) := by decide +kernel
theorem dX10_planLine_304 : decode cX10_planLine 304 = .ok (.ireturn, 1) := by decide +kernel
theorem dX10_planLine_305 : decode cX10_planLine 305 = .ok (.aload_n 0, 1) := by decide +kernel
theorem dX10_planLine_306 : decode cX10_planLine 306 = .ok (.getfield 54, 3) := by decide +kernel
theorem dX10_planLine_309 : decode cX10_planLine 309 = .ok (.bipush 12, 2) := by decide +kernel
theorem dX10_planLine_311 : decode cX10_planLine 311 = .ok (.iload_n 1, 1) := by decide +kernel
theorem dX10_planLine_312 : decode cX10_planLine 312 = .ok (.iadd, 1) := by decide +kernel
theorem dX10_planLine_313 : decode cX10_planLine 313 = .ok (.aload_n 0, 1) := by decide +kernel
theorem dX10_planLine_314 : decode cX10_planLine 314 = .ok (.getfield 215, 3) := by decide +kernel
theorem dX10_planLine_317 : decode cX10_planLine 317 = .ok (.iastore, 1) := by decide +kernel
theorem dX10_planLine_318 : decode cX10_planLine 318 = .ok (.iconst 1, 1) := by decide +kernel
theorem dX10_planLine_319 : decode cX10_planLine 319 = .ok (.ireturn, 1) := by decide +kernel
theorem dX10_planLine_320 : decode cX10_planLine 320 = .ok (.aload_n 0, 1) := by decide +kernel
theorem dX10_planLine_321 : decode cX10_planLine 321 = .ok (.ldc2_w 140, 3) := by decide +kernel
theorem dX10_planLine_324 : decode cX10_planLine 324 = .ok (.invokevirtual 225, 3) := by decide +kernel
theorem dX10_planLine_327 : decode cX10_planLine 327 = .ok (.ifCond .eq 36, 3) := by decide +kernel
theorem dX10_planLine_330 : decode cX10_planLine 330 = .ok (.aload_n 0, 1) := by decide +kernel
theorem dX10_planLine_331 : decode cX10_planLine 331 = .ok (.iconst 1, 1) := by decide +kernel
theorem dX10_planLine_332 : decode cX10_planLine 332 = .ok (.invokevirtual 239, 3) := by decide +kernel
theorem dX10_planLine_335 : decode cX10_planLine 335 = .ok (.ifCond .eq 13, 3) := by decide +kernel
theorem dX10_planLine_338 : decode cX10_planLine 338 = .ok (.aload_n 0, 1) := by decide +kernel
theorem dX10_planLine_339 : decode cX10_planLine 339 = .ok (.iconst 0, 1) := by decide +kernel
theorem dX10_planLine_340 : decode cX10_planLine 340 = .ok (.bipush 99, 2) := by decide +kernel
theorem dX10_planLine_342 : decode cX10_planLine 342 = .ok (.invokevirtual 242, 3) := by decide +kernel
theorem dX10_planLine_345 : decode cX10_planLine 345 = .ok (.ifCond .ne 5, 3) := by decide +kernel
theorem dX10_planLine_348 : decode cX10_planLine 348 = .ok (.iconst 0, 1) := by decide +kernel
theorem dX10_planLine_349 : decode cX10_planLine 349 = .ok (.ireturn, 1) := by decide +kernel
theorem dX10_planLine_350 : decode cX10_planLine 350 = .ok (.aload_n 0, 1) := by decide +kernel
theorem dX10_planLine_351 : decode cX10_planLine 351 = .ok (.getfield 54, 3) := by decide +kernel
theorem dX10_planLine_354 : decode cX10_planLine 354 = .ok (.bipush 9, 2) := by decide +kernel
theorem dX10_planLine_356 : decode cX10_planLine 356 = .ok (.aload_n 0, 1) := by decide +kernel
theorem dX10_planLine_357 : decode cX10_planLine 357 = .ok (.getfield 215, 3) := by decide +kernel
theorem dX10_planLine_360 : decode cX10_planLine 360 = .ok (.iastore, 1) := by decide +kernel
theorem dX10_planLine_361 : decode cX10_planLine 361 = .ok (.iconst 1, 1) := by decide +kernel
theorem dX10_planLine_362 : decode cX10_planLine 362 = .ok (.ireturn, 1) := by decide +kernel
theorem dX10_planLine_363 : decode cX10_planLine 363 = .ok (.aload_n 0, 1) := by decide +kernel
theorem dX10_planLine_364 : decode cX10_planLine 364 = .ok (.ldc2_w 146, 3) := by decide +kernel
theorem dX10_planLine_367 : decode cX10_planLine 367 = .ok (.invokevirtual 225, 3) := by decide +kernel
theorem dX10_planLine_370 : decode cX10_planLine 370 = .ok (.ifCond .eq 36, 3) := by decide +kernel
theorem dX10_planLine_373 : decode cX10_planLine 373 = .ok (.aload_n 0, 1) := by decide +kernel
theorem dX10_planLine_374 : decode cX10_planLine 374 = .ok (.iconst 2, 1) := by decide +kernel
theorem dX10_planLine_375 : decode cX10_planLine 375 = .ok (.invokevirtual 239, 3) := by decide +kernel
theorem dX10_planLine_378 : decode cX10_planLine 378 = .ok (.ifCond .eq 13, 3) := by decide +kernel
theorem dX10_planLine_381 : decode cX10_planLine 381 = .ok (.aload_n 0, 1) := by decide +kernel
theorem dX10_planLine_382 : decode cX10_planLine 382 = .ok (.iconst 1, 1) := by decide +kernel
theorem dX10_planLine_383 : decode cX10_planLine 383 = .ok (.bipush 60, 2) := by decide +kernel
theorem dX10_planLine_385 : decode cX10_planLine 385 = .ok (.invokevirtual 242, 3) := by decide +kernel
theorem dX10_planLine_388 : decode cX10_planLine 388 = .ok (.ifCond .ne 5, 3) := by decide +kernel
theorem dX10_planLine_391 : decode cX10_planLine 391 = .ok (.iconst 0, 1) := by decide +kernel
theorem dX10_planLine_392 : decode cX10_planLine 392 = .ok (.ireturn, 1) := by decide +kernel
theorem dX10_planLine_393 : decode cX10_planLine 393 = .ok (.aload_n 0, 1) := by decide +kernel
theorem dX10_planLine_394 : decode cX10_planLine 394 = .ok (.getfield 54, 3) := by decide +kernel
theorem dX10_planLine_397 : decode cX10_planLine 397 = .ok (.bipush 11, 2) := by decide +kernel
theorem dX10_planLine_399 : decode cX10_planLine 399 = .ok (.aload_n 0, 1) := by decide +kernel
theorem dX10_planLine_400 : decode cX10_planLine 400 = .ok (.getfield 215, 3) := by decide +kernel
theorem dX10_planLine_403 : decode cX10_planLine 403 = .ok (.iastore, 1) := by decide +kernel
theorem dX10_planLine_404 : decode cX10_planLine 404 = .ok (.iconst 1, 1) := by decide +kernel
theorem dX10_planLine_405 : decode cX10_planLine 405 = .ok (.ireturn, 1) := by decide +kernel
theorem dX10_planLine_406 : decode cX10_planLine 406 = .ok (.aload_n 0, 1) := by decide +kernel
theorem dX10_planLine_407 : decode cX10_planLine 407 = .ok (.ldc2_w 144, 3) := by decide +kernel
theorem dX10_planLine_410 : decode cX10_planLine 410 = .ok (.invokevirtual 225, 3) := by decide +kernel
theorem dX10_planLine_413 : decode cX10_planLine 413 = .ok (.ifCond .ne 9, 3) := by decide +kernel
theorem dX10_planLine_416 : decode cX10_planLine 416 = .ok (.aload_n 0, 1) := by decide +kernel
theorem dX10_planLine_417 : decode cX10_planLine 417 = .ok (.iconst 1, 1) := by decide +kernel
theorem dX10_planLine_418 : decode cX10_planLine 418 = .ok (.invokevirtual 205, 3) := by decide +kernel
theorem dX10_planLine_421 : decode cX10_planLine 421 = .ok (.ireturn, 1) := by decide +kernel
theorem dX10_planLine_422 : decode cX10_planLine 422 = .ok (.aload_n 0, 1) := by decide +kernel
theorem dX10_planLine_423 : decode cX10_planLine 423 = .ok (.iconst 3, 1) := by decide +kernel
theorem dX10_planLine_424 : decode cX10_planLine 424 = .ok (.invokevirtual 239, 3) := by decide +kernel
theorem dX10_planLine_427 : decode cX10_planLine 427 = .ok (.ifCond .ne 5, 3) := by decide +kernel
theorem dX10_planLine_430 : decode cX10_planLine 430 = .ok (.iconst 0, 1) := by decide +kernel
theorem dX10_planLine_431 : decode cX10_planLine 431 = .ok (.ireturn, 1) := by decide +kernel
theorem dX10_planLine_432 : decode cX10_planLine 432 = .ok (.aload_n 0, 1) := by decide +kernel
theorem dX10_planLine_433 : decode cX10_planLine 433 = .ok (.invokevirtual 218, 3) := by decide +kernel
theorem dX10_planLine_436 : decode cX10_planLine 436 = .ok (.ifCond .ne 9, 3) := by decide +kernel
theorem dX10_planLine_439 : decode cX10_planLine 439 = .ok (.aload_n 0, 1) := by decide +kernel
theorem dX10_planLine_440 : decode cX10_planLine 440 = .ok (.iconst 1, 1) := by decide +kernel
theorem dX10_planLine_441 : decode cX10_planLine 441 = .ok (.invokevirtual 205, 3) := by decide +kernel
theorem dX10_planLine_444 : decode cX10_planLine 444 = .ok (.ireturn, 1) := by decide +kernel
theorem dX10_planLine_445 : decode cX10_planLine 445 = .ok (.aload_n 0, 1) := by decide +kernel
theorem dX10_planLine_446 : decode cX10_planLine 446 = .ok (.bipush 12, 2) := by decide +kernel
theorem dX10_planLine_448 : decode cX10_planLine 448 = .ok (.aload_n 0, 1) := by decide +kernel
theorem dX10_planLine_449 : decode cX10_planLine 449 = .ok (.getfield 37, 3) := by decide +kernel
theorem dX10_planLine_452 : decode cX10_planLine 452 = .ok (.bipush 7, 2) := by decide +kernel
theorem dX10_planLine_454 : decode cX10_planLine 454 = .ok (.iaload, 1) := by decide +kernel
theorem dX10_planLine_455 : decode cX10_planLine 455 = .ok (.invokevirtual 222, 3) := by decide +kernel
theorem dX10_planLine_458 : decode cX10_planLine 458 = .ok (.istore_n 1, 1) := by decide +kernel
theorem dX10_planLine_459 : decode cX10_planLine 459 = .ok (.iload_n 1, 1) := by decide +kernel
theorem dX10_planLine_460 : decode cX10_planLine 460 = .ok (.ifCond .ge 9, 3) := by decide +kernel
theorem dX10_planLine_463 : decode cX10_planLine 463 = .ok (.aload_n 0, 1) := by decide +kernel
theorem dX10_planLine_464 : decode cX10_planLine 464 = .ok (.iconst 3, 1) := by decide +kernel
theorem dX10_planLine_465 : decode cX10_planLine 465 = .ok (.invokevirtual 205, 3) := by decide +kernel
theorem dX10_planLine_468 : decode cX10_planLine 468 = .ok (.ireturn, 1) := by decide +kernel
theorem dX10_planLine_469 : decode cX10_planLine 469 = .ok (.aload_n 0, 1) := by decide +kernel
theorem dX10_planLine_470 : decode cX10_planLine 470 = .ok (.getfield 54, 3) := by decide +kernel
theorem dX10_planLine_473 : decode cX10_planLine 473 = .ok (.bipush 10, 2) := by decide +kernel
theorem dX10_planLine_475 : decode cX10_planLine 475 = .ok (.iload_n 1, 1) := by decide +kernel
theorem dX10_planLine_476 : decode cX10_planLine 476 = .ok (.iastore, 1) := by decide +kernel
theorem dX10_planLine_477 : decode cX10_planLine 477 = .ok (.aload_n 0, 1) := by decide +kernel
theorem dX10_planLine_478 : decode cX10_planLine 478 = .ok (.invokevirtual 208, 3) := by decide +kernel
theorem dX10_planLine_481 : decode cX10_planLine 481 = .ok (.iconst 1, 1) := by decide +kernel
theorem dX10_planLine_482 : decode cX10_planLine 482 = .ok (.ireturn, 1) := by decide +kernel
theorem dX10_plan_0 : decode cX10_plan 0 = .ok (.aload_n 0, 1) := by decide +kernel
theorem dX10_plan_1 : decode cX10_plan 1 = .ok (.iconst 0, 1) := by decide +kernel
theorem dX10_plan_2 : decode cX10_plan 2 = .ok (.putfield 1, 3) := by decide +kernel
theorem dX10_plan_5 : decode cX10_plan 5 = .ok (.aload_n 0, 1) := by decide +kernel
theorem dX10_plan_6 : decode cX10_plan 6 = .ok (.sipush 400, 3) := by decide +kernel
theorem dX10_plan_9 : decode cX10_plan 9 = .ok (.invokevirtual 248, 3) := by decide +kernel
theorem dX10_plan_12 : decode cX10_plan 12 = .ok (.aload_n 0, 1) := by decide +kernel
theorem dX10_plan_13 : decode cX10_plan 13 = .ok (.iconst 0, 1) := by decide +kernel
theorem dX10_plan_14 : decode cX10_plan 14 = .ok (.putfield 196, 3) := by decide +kernel
theorem dX10_plan_17 : decode cX10_plan 17 = .ok (.aload_n 0, 1) := by decide +kernel
theorem dX10_plan_18 : decode cX10_plan 18 = .ok (.iconst 0, 1) := by decide +kernel
theorem dX10_plan_19 : decode cX10_plan 19 = .ok (.putfield 229, 3) := by decide +kernel
theorem dX10_plan_22 : decode cX10_plan 22 = .ok (.aload_n 0, 1) := by decide +kernel
theorem dX10_plan_23 : decode cX10_plan 23 = .ok (.iconst 0, 1) := by decide +kernel
theorem dX10_plan_24 : decode cX10_plan 24 = .ok (.putfield 272, 3) := by decide +kernel
theorem dX10_plan_27 : decode cX10_plan 27 = .ok (.aload_n 0, 1) := by decide +kernel
theorem dX10_plan_28 : decode cX10_plan 28 = .ok (.iconst 0, 1) := by decide +kernel
theorem dX10_plan_29 : decode cX10_plan 29 = .ok (.putfield 275, 3) := by decide +kernel
theorem dX10_plan_32 : decode cX10_plan 32 = .ok (.iconst 0, 1) := by decide +kernel
theorem dX10_plan_33 : decode cX10_plan 33 = .ok (.istore_n 1, 1) := by decide +kernel
theorem dX10_plan_34 : decode cX10_plan 34 = .ok (.iload_n 1, 1) := by decide +kernel
theorem dX10_plan_35 : decode cX10_plan 35 = .ok (.bipush 24, 2) := by decide +kernel
theorem dX10_plan_37 : decode cX10_plan 37 = .ok (.if_icmp .ge 16, 3) := by decide +kernel
theorem dX10_plan_40 : decode cX10_plan 40 = .ok (.aload_n 0, 1) := by decide +kernel
theorem dX10_plan_41 : decode cX10_plan 41 = .ok (.getfield 54, 3) := by decide +kernel
theorem dX10_plan_44 : decode cX10_plan 44 = .ok (.iload_n 1, 1) := by decide +kernel
theorem dX10_plan_45 : decode cX10_plan 45 = .ok (.iconst 0, 1) := by decide +kernel
theorem dX10_plan_46 : decode cX10_plan 46 = .ok (.iastore, 1) := by decide +kernel
theorem dX10_plan_47 : decode cX10_plan 47 = .ok (.iinc 1 1, 3) := by decide +kernel
theorem dX10_plan_50 : decode cX10_plan 50 = .ok (.goto (-16), 3) := by decide +kernel
theorem dX10_plan_53 : decode cX10_plan 53 = .ok (.iconst 0, 1) := by decide +kernel
theorem dX10_plan_54 : decode cX10_plan 54 = .ok (.istore_n 1, 1) := by decide +kernel
theorem dX10_plan_55 : decode cX10_plan 55 = .ok (.iload_n 1, 1) := by decide +kernel
theorem dX10_plan_56 : decode cX10_plan 56 = .ok (.iconst 4, 1) := by decide +kernel
theorem dX10_plan_57 : decode cX10_plan 57 = .ok (.if_icmp .ge 25, 3) := by decide +kernel
theorem dX10_plan_60 : decode cX10_plan 60 = .ok (.aload_n 0, 1) := by decide +kernel
theorem dX10_plan_61 : decode cX10_plan 61 = .ok (.getfield 54, 3) := by decide +kernel
theorem dX10_plan_64 : decode cX10_plan 64 = .ok (.iconst 5, 1) := by decide +kernel
theorem dX10_plan_65 : decode cX10_plan 65 = .ok (.iload_n 1, 1) := by decide +kernel
theorem dX10_plan_66 : decode cX10_plan 66 = .ok (.iadd, 1) := by decide +kernel
theorem dX10_plan_67 : decode cX10_plan 67 = .ok (.aload_n 0, 1) := by decide +kernel
theorem dX10_plan_68 : decode cX10_plan 68 = .ok (.getfield 37, 3) := by decide +kernel
theorem dX10_plan_71 : decode cX10_plan 71 = .ok (.iconst 0, 1) := by decide +kernel
theorem dX10_plan_72 : decode cX10_plan 72 = .ok (.iaload, 1) := by decide +kernel
theorem dX10_plan_73 : decode cX10_plan 73 = .ok (.iconst 1, 1) := by decide +kernel
theorem dX10_plan_74 : decode cX10_plan 74 = .ok (.isub, 1) := by decide +kernel
theorem dX10_plan_75 : decode cX10_plan 75 = .ok (.iastore, 1) := by decide +kernel
theorem dX10_plan_76 : decode cX10_plan 76 = .ok (.iinc 1 1, 3) := by decide +kernel
theorem dX10_plan_79 : decode cX10_plan 79 = .ok (.goto (-24), 3) := by decide +kernel
theorem dX10_plan_82 : decode cX10_plan 82 = .ok (.iconst 0, 1) := by decide +kernel
theorem dX10_plan_83 : decode cX10_plan 83 = .ok (.istore_n 1, 1) := by decide +kernel
theorem dX10_plan_84 : decode cX10_plan 84 = .ok (.iload_n 1, 1) := by decide +kernel
theorem dX10_plan_85 : decode cX10_plan 85 = .ok (.aload_n 0, 1) := by decide +kernel
theorem dX10_plan_86 : decode cX10_plan 86 = .ok (.getfield 37, 3) := by decide +kernel
theorem dX10_plan_89 : decode cX10_plan 89 = .ok (.bipush 6, 2) := by decide +kernel
theorem dX10_plan_91 : decode cX10_plan 91 = .ok (.iaload, 1) := by decide +kernel
theorem dX10_plan_92 : decode cX10_plan 92 = .ok (.if_icmp .ge 27, 3) := by decide +kernel
theorem dX10_plan_95 : decode cX10_plan 95 = .ok (.aload_n 0, 1) := by decide +kernel
theorem dX10_plan_96 : decode cX10_plan 96 = .ok (.getfield 54, 3) := by decide +kernel
theorem dX10_plan_99 : decode cX10_plan 99 = .ok (.bipush 12, 2) := by decide +kernel
theorem dX10_plan_101 : decode cX10_plan 101 = .ok (.iload_n 1, 1) := by decide +kernel
theorem dX10_plan_102 : decode cX10_plan 102 = .ok (.iadd, 1) := by decide +kernel
theorem dX10_plan_103 : decode cX10_plan 103 = .ok (.aload_n 0, 1) := by decide +kernel
theorem dX10_plan_104 : decode cX10_plan 104 = .ok (.getfield 37, 3) := by decide +kernel
theorem dX10_plan_107 : decode cX10_plan 107 = .ok (.bipush 68, 2) := by decide +kernel
theorem dX10_plan_109 : decode cX10_plan 109 = .ok (.iload_n 1, 1) := by decide +kernel
theorem dX10_plan_110 : decode cX10_plan 110 = .ok (.iadd, 1) := by decide +kernel
theorem dX10_plan_111 : decode cX10_plan 111 = .ok (.iaload, 1) := by decide +kernel
theorem dX10_plan_112 : decode cX10_plan 112 = .ok (.iastore, 1) := by decide +kernel
theorem dX10_plan_113 : decode cX10_plan 113 = .ok (.iinc 1 1, 3) := by decide +kernel
theorem dX10_plan_116 : decode cX10_plan 116 = .ok (.goto (-32), 3) := by decide +kernel
theorem dX10_plan_119 : decode cX10_plan 119 = .ok (.aload_n 0, 1) := by decide +kernel
theorem dX10_plan_120 : decode cX10_plan 120 = .ok (.getfield 54, 3) := by decide +kernel
theorem dX10_plan_123 : decode cX10_plan 123 = .ok (.bipush 11, 2) := by decide +kernel
theorem dX10_plan_125 : decode cX10_plan 125 = .ok (.iconst 1, 1) := by decide +kernel
theorem dX10_plan_126 : decode cX10_plan 126 = .ok (.iastore, 1) := by decide +kernel
theorem dX10_plan_127 : decode cX10_plan 127 = .ok (.iconst 0, 1) := by decide +kernel
theorem dX10_plan_128 : decode cX10_plan 128 = .ok (.istore_n 1, 1) := by decide +kernel
theorem dX10_plan_129 : decode cX10_plan 129 = .ok (.aload_n 0, 1) := by decide +kernel
theorem dX10_plan_130 : decode cX10_plan 130 = .ok (.invokevirtual 208, 3) := by decide +kernel
theorem dX10_plan_133 : decode cX10_plan 133 = .ok (.aload_n 0, 1) := by decide +kernel
theorem dX10_plan_134 : decode cX10_plan 134 = .ok (.getfield 179, 3) := by decide +kernel
theorem dX10_plan_137 : decode cX10_plan 137 = .ok (.ifCond .eq 32, 3) := by decide +kernel
theorem dX10_plan_140 : decode cX10_plan 140 = .ok (.aload_n 0, 1) := by decide +kernel
theorem dX10_plan_141 : decode cX10_plan 141 = .ok (.invokevirtual 278, 3) := by decide +kernel
theorem dX10_plan_144 : decode cX10_plan 144 = .ok (.ifCond .eq 12, 3) := by decide +kernel
theorem dX10_plan_147 : decode cX10_plan 147 = .ok (.aload_n 0, 1) := by decide +kernel
theorem dX10_plan_148 : decode cX10_plan 148 = .ok (.bipush 59, 2) := by decide +kernel
theorem dX10_plan_150 : decode cX10_plan 150 = .ok (.invokevirtual 257, 3) := by decide +kernel
theorem dX10_plan_153 : decode cX10_plan 153 = .ok (.ifCond .ne 10, 3) := by decide +kernel
theorem dX10_plan_156 : decode cX10_plan 156 = .ok (.iconst (-1), 1) := by decide +kernel
theorem dX10_plan_157 : decode cX10_plan 157 = .ok (.aload_n 0, 1) := by decide +kernel
theorem dX10_plan_158 : decode cX10_plan 158 = .ok (.getfield 199, 3) := by decide +kernel
theorem dX10_plan_161 : decode cX10_plan 161 = .ok (.isub, 1) := by decide +kernel
theorem dX10_plan_162 : decode cX10_plan 162 = .ok (.ireturn, 1) := by decide +kernel
theorem dX10_plan_163 : decode cX10_plan 163 = .ok (.iinc 1 1, 3) := by decide +kernel
theorem dX10_plan_166 : decode cX10_plan 166 = .ok (.goto (-33), 3) := by decide +kernel
theorem dX10_plan_169 : decode cX10_plan 169 = .ok (.iconst 0, 1) := by decide +kernel
theorem dX10_plan_170 : decode cX10_plan 170 = .ok (.istore_n 2, 1) := by decide +kernel
theorem dX10_plan_171 : decode cX10_plan 171 = .ok (.iload_n 2, 1) := by decide +kernel
theorem dX10_plan_172 : decode cX10_plan 172 = .ok (.bipush 24, 2) := by decide +kernel
theorem dX10_plan_174 : decode cX10_plan 174 = .ok (.if_icmp .ge 24, 3) := by decide +kernel
theorem dX10_plan_177 : decode cX10_plan 177 = .ok (.aload_n 0, 1) := by decide +kernel
theorem dX10_plan_178 : decode cX10_plan 178 = .ok (.getfield 37, 3) := by decide +kernel
theorem dX10_plan_181 : decode cX10_plan 181 = .ok (.bipush 104, 2) := by decide +kernel
theorem dX10_plan_183 : decode cX10_plan 183 = .ok (.iload_n 2, 1) := by decide +kernel
theorem dX10_plan_184 : decode cX10_plan 184 = .ok (.iadd, 1) := by decide +kernel
theorem dX10_plan_185 : decode cX10_plan 185 = .ok (.aload_n 0, 1) := by decide +kernel
theorem dX10_plan_186 : decode cX10_plan 186 = .ok (.getfield 54, 3) := by decide +kernel
theorem dX10_plan_189 : decode cX10_plan 189 = .ok (.iload_n 2, 1) := by decide +kernel
theorem dX10_plan_190 : decode cX10_plan 190 = .ok (.iaload, 1) := by decide +kernel
theorem dX10_plan_191 : decode cX10_plan 191 = .ok (.iastore, 1) := by decide +kernel
theorem dX10_plan_192 : decode cX10_plan 192 = .ok (.iinc 2 1, 3) := by decide +kernel
theorem dX10_plan_195 : decode cX10_plan 195 = .ok (.goto (-24), 3) := by decide +kernel
theorem dX10_plan_198 : decode cX10_plan 198 = .ok (.aload_n 0, 1) := by decide +kernel
theorem dX10_plan_199 : decode cX10_plan 199 = .ok (.iconst 0, 1) := by decide +kernel
theorem dX10_plan_200 : decode cX10_plan 200 = .ok (.putfield 263, 3) := by decide +kernel
theorem dX10_plan_203 : decode cX10_plan 203 = .ok (.iload_n 1, 1) := by decide +kernel
theorem dX10_plan_204 : decode cX10_plan 204 = .ok (.ireturn, 1) := by decide +kernel
theorem dX10_hasCrew_0 : decode cX10_hasCrew 0 = .ok (.aload_n 0, 1) := by decide +kernel
theorem dX10_hasCrew_1 : decode cX10_hasCrew 1 = .ok (.getfield 37, 3) := by decide +kernel
theorem dX10_hasCrew_4 : decode cX10_hasCrew 4 = .ok (.bipush 104, 2) := by decide +kernel
theorem dX10_hasCrew_6 : decode cX10_hasCrew 6 = .ok (.iaload, 1) := by decide +kernel
theorem dX10_hasCrew_7 : decode cX10_hasCrew 7 = .ok (.iconst 1, 1) := by decide +kernel
theorem dX10_hasCrew_8 : decode cX10_hasCrew 8 = .ok (.if_icmp .ne 7, 3) := by decide +kernel
theorem dX10_hasCrew_11 : decode cX10_hasCrew 11 = .ok (.iconst 1, 1) := by decide +kernel
theorem dX10_hasCrew_12 : decode cX10_hasCrew 12 = .ok (.goto 4, 3) := by decide +kernel
theorem dX10_hasCrew_15 : decode cX10_hasCrew 15 = .ok (.iconst 0, 1) := by decide +kernel
theorem dX10_hasCrew_16 : decode cX10_hasCrew 16 = .ok (.ireturn, 1) := by decide +kernel
theorem dX10_placeOf_0 : decode cX10_placeOf 0 = .ok (.iconst 0, 1) := by decide +kernel
theorem dX10_placeOf_1 : decode cX10_placeOf 1 = .ok (.istore_n 2, 1) := by decide +kernel
theorem dX10_placeOf_2 : decode cX10_placeOf 2 = .ok (.iload_n 2, 1) := by decide +kernel
theorem dX10_placeOf_3 : decode cX10_placeOf 3 = .ok (.iconst 4, 1) := by decide +kernel
theorem dX10_placeOf_4 : decode cX10_placeOf 4 = .ok (.if_icmp .ge 31, 3) := by decide +kernel
theorem dX10_placeOf_7 : decode cX10_placeOf 7 = .ok (.aload_n 0, 1) := by decide +kernel
theorem dX10_placeOf_8 : decode cX10_placeOf 8 = .ok (.invokevirtual 281, 3) := by decide +kernel
theorem dX10_placeOf_11 : decode cX10_placeOf 11 = .ok (.ifCond .eq 24, 3) := by decide +kernel
theorem dX10_placeOf_14 : decode cX10_placeOf 14 = .ok (.aload_n 0, 1) := by decide +kernel
theorem dX10_placeOf_15 : decode cX10_placeOf 15 = .ok (.getfield 37, 3) := by decide +kernel
theorem dX10_placeOf_18 : decode cX10_placeOf 18 = .ok (.bipush 105, 2) := by decide +kernel
theorem dX10_placeOf_20 : decode cX10_placeOf 20 = .ok (.iload_n 2, 1) := by decide +kernel
theorem dX10_placeOf_21 : decode cX10_placeOf 21 = .ok (.iadd, 1) := by decide +kernel
theorem dX10_placeOf_22 : decode cX10_placeOf 22 = .ok (.iaload, 1) := by decide +kernel
theorem dX10_placeOf_23 : decode cX10_placeOf 23 = .ok (.iload_n 1, 1) := by decide +kernel
theorem dX10_placeOf_24 : decode cX10_placeOf 24 = .ok (.if_icmp .ne 5, 3) := by decide +kernel
theorem dX10_placeOf_27 : decode cX10_placeOf 27 = .ok (.iload_n 2, 1) := by decide +kernel
theorem dX10_placeOf_28 : decode cX10_placeOf 28 = .ok (.ireturn, 1) := by decide +kernel
theorem dX10_placeOf_29 : decode cX10_placeOf 29 = .ok (.iinc 2 1, 3) := by decide +kernel
theorem dX10_placeOf_32 : decode cX10_placeOf 32 = .ok (.goto (-30), 3) := by decide +kernel
theorem dX10_placeOf_35 : decode cX10_placeOf 35 = .ok (.iconst (-1), 1) := by decide +kernel
theorem dX10_placeOf_36 : decode cX10_placeOf 36 = .ok (.ireturn, 1) := by decide +kernel
theorem dX10_man_0 : decode cX10_man 0 = .ok (.aload_n 0, 1) := by decide +kernel
theorem dX10_man_1 : decode cX10_man 1 = .ok (.iload_n 1, 1) := by decide +kernel
theorem dX10_man_2 : decode cX10_man 2 = .ok (.iconst 0, 1) := by decide +kernel
theorem dX10_man_3 : decode cX10_man 3 = .ok (.aload_n 0, 1) := by decide +kernel
theorem dX10_man_4 : decode cX10_man 4 = .ok (.getfield 37, 3) := by decide +kernel
theorem dX10_man_7 : decode cX10_man 7 = .ok (.iconst 5, 1) := by decide +kernel
theorem dX10_man_8 : decode cX10_man 8 = .ok (.iaload, 1) := by decide +kernel
theorem dX10_man_9 : decode cX10_man 9 = .ok (.iconst 1, 1) := by decide +kernel
theorem dX10_man_10 : decode cX10_man 10 = .ok (.isub, 1) := by decide +kernel
theorem dX10_man_11 : decode cX10_man 11 = .ok (.invokestatic 211, 3) := by decide +kernel
theorem dX10_man_14 : decode cX10_man 14 = .ok (.ifCond .eq 12, 3) := by decide +kernel
theorem dX10_man_17 : decode cX10_man 17 = .ok (.iload_n 2, 1) := by decide +kernel
theorem dX10_man_18 : decode cX10_man 18 = .ok (.iconst 0, 1) := by decide +kernel
theorem dX10_man_19 : decode cX10_man 19 = .ok (.iconst 4, 1) := by decide +kernel
theorem dX10_man_20 : decode cX10_man 20 = .ok (.invokestatic 211, 3) := by decide +kernel
theorem dX10_man_23 : decode cX10_man 23 = .ok (.ifCond .ne 7, 3) := by decide +kernel
theorem dX10_man_26 : decode cX10_man 26 = .ok (.iconst 1, 1) := by decide +kernel
theorem dX10_man_27 : decode cX10_man 27 = .ok (.goto 4, 3) := by decide +kernel
theorem dX10_man_30 : decode cX10_man 30 = .ok (.iconst 0, 1) := by decide +kernel
theorem dX10_man_31 : decode cX10_man 31 = .ok (.invokevirtual 284, 3) := by decide +kernel
theorem dX10_man_34 : decode cX10_man 34 = .ok (.ifCond .eq 5, 3) := by decide +kernel
theorem dX10_man_37 : decode cX10_man 37 = .ok (.iconst 0, 1) := by decide +kernel
theorem dX10_man_38 : decode cX10_man 38 = .ok (.ireturn, 1) := by decide +kernel
theorem dX10_man_39 : decode cX10_man 39 = .ok (.aload_n 0, 1) := by decide +kernel
theorem dX10_man_40 : decode cX10_man 40 = .ok (.iload_n 1, 1) := by decide +kernel
theorem dX10_man_41 : decode cX10_man 41 = .ok (.invokevirtual 288, 3) := by decide +kernel
theorem dX10_man_44 : decode cX10_man 44 = .ok (.istore_n 3, 1) := by decide +kernel
theorem dX10_man_45 : decode cX10_man 45 = .ok (.iload_n 2, 1) := by decide +kernel
theorem dX10_man_46 : decode cX10_man 46 = .ok (.tableswitch 62 0 3 #[30, 40, 50, 60], 30) := by decide +kernel
theorem dX10_man_76 : decode cX10_man 76 = .ok (.aload_n 0, 1) := by decide +kernel
theorem dX10_man_77 : decode cX10_man 77 = .ok (.getfield 37, 3) := by decide +kernel
theorem dX10_man_80 : decode cX10_man 80 = .ok (.bipush 8, 2) := by decide +kernel
theorem dX10_man_82 : decode cX10_man 82 = .ok (.iload_n 1, 1) := by decide +kernel
theorem dX10_man_83 : decode cX10_man 83 = .ok (.iadd, 1) := by decide +kernel
theorem dX10_man_84 : decode cX10_man 84 = .ok (.iaload, 1) := by decide +kernel
theorem dX10_man_85 : decode cX10_man 85 = .ok (.ireturn, 1) := by decide +kernel
theorem dX10_man_86 : decode cX10_man 86 = .ok (.aload_n 0, 1) := by decide +kernel
theorem dX10_man_87 : decode cX10_man 87 = .ok (.getfield 37, 3) := by decide +kernel
theorem dX10_man_90 : decode cX10_man 90 = .ok (.bipush 20, 2) := by decide +kernel
theorem dX10_man_92 : decode cX10_man 92 = .ok (.iload_n 1, 1) := by decide +kernel
theorem dX10_man_93 : decode cX10_man 93 = .ok (.iadd, 1) := by decide +kernel
theorem dX10_man_94 : decode cX10_man 94 = .ok (.iaload, 1) := by decide +kernel
theorem dX10_man_95 : decode cX10_man 95 = .ok (.ireturn, 1) := by decide +kernel
theorem dX10_man_96 : decode cX10_man 96 = .ok (.aload_n 0, 1) := by decide +kernel
theorem dX10_man_97 : decode cX10_man 97 = .ok (.getfield 37, 3) := by decide +kernel
theorem dX10_man_100 : decode cX10_man 100 = .ok (.bipush 32, 2) := by decide +kernel
theorem dX10_man_102 : decode cX10_man 102 = .ok (.iload_n 1, 1) := by decide +kernel
theorem dX10_man_103 : decode cX10_man 103 = .ok (.iadd, 1) := by decide +kernel
theorem dX10_man_104 : decode cX10_man 104 = .ok (.iaload, 1) := by decide +kernel
theorem dX10_man_105 : decode cX10_man 105 = .ok (.ireturn, 1) := by decide +kernel
theorem dX10_man_106 : decode cX10_man 106 = .ok (.iload_n 3, 1) := by decide +kernel
theorem dX10_man_107 : decode cX10_man 107 = .ok (.ireturn, 1) := by decide +kernel
theorem dX10_man_108 : decode cX10_man 108 = .ok (.iload_n 3, 1) := by decide +kernel
theorem dX10_man_109 : decode cX10_man 109 = .ok (.ifCond .ge 7, 3) := by decide +kernel
theorem dX10_man_112 : decode cX10_man 112 = .ok (.iconst (-1), 1) := by decide +kernel
theorem dX10_man_113 : decode cX10_man 113 = .ok (.goto 12, 3) := by decide +kernel
theorem dX10_man_116 : decode cX10_man 116 = .ok (.aload_n 0, 1) := by decide +kernel
theorem dX10_man_117 : decode cX10_man 117 = .ok (.getfield 37, 3) := by decide +kernel
theorem dX10_man_120 : decode cX10_man 120 = .ok (.bipush 109, 2) := by decide +kernel
theorem dX10_man_122 : decode cX10_man 122 = .ok (.iload_n 3, 1) := by decide +kernel
theorem dX10_man_123 : decode cX10_man 123 = .ok (.iadd, 1) := by decide +kernel
theorem dX10_man_124 : decode cX10_man 124 = .ok (.iaload, 1) := by decide +kernel
theorem dX10_man_125 : decode cX10_man 125 = .ok (.ireturn, 1) := by decide +kernel
theorem dX10_isBend_0 : decode cX10_isBend 0 = .ok (.iload_n 1, 1) := by decide +kernel
theorem dX10_isBend_1 : decode cX10_isBend 1 = .ok (.iconst 0, 1) := by decide +kernel
theorem dX10_isBend_2 : decode cX10_isBend 2 = .ok (.aload_n 0, 1) := by decide +kernel
theorem dX10_isBend_3 : decode cX10_isBend 3 = .ok (.getfield 37, 3) := by decide +kernel
theorem dX10_isBend_6 : decode cX10_isBend 6 = .ok (.bipush 6, 2) := by decide +kernel
theorem dX10_isBend_8 : decode cX10_isBend 8 = .ok (.iaload, 1) := by decide +kernel
theorem dX10_isBend_9 : decode cX10_isBend 9 = .ok (.iconst 1, 1) := by decide +kernel
theorem dX10_isBend_10 : decode cX10_isBend 10 = .ok (.isub, 1) := by decide +kernel
theorem dX10_isBend_11 : decode cX10_isBend 11 = .ok (.invokestatic 211, 3) := by decide +kernel
theorem dX10_isBend_14 : decode cX10_isBend 14 = .ok (.ireturn, 1) := by decide +kernel
theorem dX10_bend_0 : decode cX10_bend 0 = .ok (.aload_n 0, 1) := by decide +kernel
theorem dX10_bend_1 : decode cX10_bend 1 = .ok (.iconst 0, 1) := by decide +kernel
theorem dX10_bend_2 : decode cX10_bend 2 = .ok (.putfield 1, 3) := by decide +kernel
theorem dX10_bend_5 : decode cX10_bend 5 = .ok (.aload_n 0, 1) := by decide +kernel
theorem dX10_bend_6 : decode cX10_bend 6 = .ok (.iload_n 1, 1) := by decide +kernel
theorem dX10_bend_7 : decode cX10_bend 7 = .ok (.invokevirtual 292, 3) := by decide +kernel
theorem dX10_bend_10 : decode cX10_bend 10 = .ok (.ifCond .ne 5, 3) := by decide +kernel
theorem dX10_bend_13 : decode cX10_bend 13 = .ok (.iconst (-1), 1) := by decide +kernel
theorem dX10_bend_14 : decode cX10_bend 14 = .ok (.ireturn, 1) := by decide +kernel
theorem dX10_bend_15 : decode cX10_bend 15 = .ok (.iload_n 2, 1) := by decide +kernel
theorem dX10_bend_16 : decode cX10_bend 16 = .ok (.tableswitch 86 0 4 #[36, 46, 56, 66, 76], 36) := by decide +kernel
theorem dX10_bend_52 : decode cX10_bend 52 = .ok (.aload_n 0, 1) := by decide +kernel
theorem dX10_bend_53 : decode cX10_bend 53 = .ok (.getfield 37, 3) := by decide +kernel
theorem dX10_bend_56 : decode cX10_bend 56 = .ok (.bipush 44, 2) := by decide +kernel
theorem dX10_bend_58 : decode cX10_bend 58 = .ok (.iload_n 1, 1) := by decide +kernel
theorem dX10_bend_59 : decode cX10_bend 59 = .ok (.iadd, 1) := by decide +kernel
theorem dX10_bend_60 : decode cX10_bend 60 = .ok (.iaload, 1) := by decide +kernel
theorem dX10_bend_61 : decode cX10_bend 61 = .ok (.ireturn, 1) := by decide +kernel
theorem dX10_bend_62 : decode cX10_bend 62 = .ok (.aload_n 0, 1) := by decide +kernel
theorem dX10_bend_63 : decode cX10_bend 63 = .ok (.getfield 37, 3) := by decide +kernel
theorem dX10_bend_66 : decode cX10_bend 66 = .ok (.bipush 56, 2) := by decide +kernel
theorem dX10_bend_68 : decode cX10_bend 68 = .ok (.iload_n 1, 1) := by decide +kernel
theorem dX10_bend_69 : decode cX10_bend 69 = .ok (.iadd, 1) := by decide +kernel
theorem dX10_bend_70 : decode cX10_bend 70 = .ok (.iaload, 1) := by decide +kernel
theorem dX10_bend_71 : decode cX10_bend 71 = .ok (.ireturn, 1) := by decide +kernel
theorem dX10_bend_72 : decode cX10_bend 72 = .ok (.aload_n 0, 1) := by decide +kernel
theorem dX10_bend_73 : decode cX10_bend 73 = .ok (.getfield 37, 3) := by decide +kernel
theorem dX10_bend_76 : decode cX10_bend 76 = .ok (.bipush 68, 2) := by decide +kernel
theorem dX10_bend_78 : decode cX10_bend 78 = .ok (.iload_n 1, 1) := by decide +kernel
theorem dX10_bend_79 : decode cX10_bend 79 = .ok (.iadd, 1) := by decide +kernel
theorem dX10_bend_80 : decode cX10_bend 80 = .ok (.iaload, 1) := by decide +kernel
theorem dX10_bend_81 : decode cX10_bend 81 = .ok (.ireturn, 1) := by decide +kernel
theorem dX10_bend_82 : decode cX10_bend 82 = .ok (.aload_n 0, 1) := by decide +kernel
theorem dX10_bend_83 : decode cX10_bend 83 = .ok (.getfield 37, 3) := by decide +kernel
theorem dX10_bend_86 : decode cX10_bend 86 = .ok (.bipush 80, 2) := by decide +kernel
theorem dX10_bend_88 : decode cX10_bend 88 = .ok (.iload_n 1, 1) := by decide +kernel
theorem dX10_bend_89 : decode cX10_bend 89 = .ok (.iadd, 1) := by decide +kernel
theorem dX10_bend_90 : decode cX10_bend 90 = .ok (.iaload, 1) := by decide +kernel
theorem dX10_bend_91 : decode cX10_bend 91 = .ok (.ireturn, 1) := by decide +kernel
theorem dX10_bend_92 : decode cX10_bend 92 = .ok (.aload_n 0, 1) := by decide +kernel
theorem dX10_bend_93 : decode cX10_bend 93 = .ok (.getfield 37, 3) := by decide +kernel
theorem dX10_bend_96 : decode cX10_bend 96 = .ok (.bipush 116, 2) := by decide +kernel
theorem dX10_bend_98 : decode cX10_bend 98 = .ok (.iload_n 1, 1) := by decide +kernel
theorem dX10_bend_99 : decode cX10_bend 99 = .ok (.iadd, 1) := by decide +kernel
theorem dX10_bend_100 : decode cX10_bend 100 = .ok (.iaload, 1) := by decide +kernel
theorem dX10_bend_101 : decode cX10_bend 101 = .ok (.ireturn, 1) := by decide +kernel
theorem dX10_bend_102 : decode cX10_bend 102 = .ok (.iconst (-1), 1) := by decide +kernel
theorem dX10_bend_103 : decode cX10_bend 103 = .ok (.ireturn, 1) := by decide +kernel
theorem dX10_isRunner_0 : decode cX10_isRunner 0 = .ok (.iload_n 1, 1) := by decide +kernel
theorem dX10_isRunner_1 : decode cX10_isRunner 1 = .ok (.iconst 0, 1) := by decide +kernel
theorem dX10_isRunner_2 : decode cX10_isRunner 2 = .ok (.aload_n 0, 1) := by decide +kernel
theorem dX10_isRunner_3 : decode cX10_isRunner 3 = .ok (.getfield 37, 3) := by decide +kernel
theorem dX10_isRunner_6 : decode cX10_isRunner 6 = .ok (.bipush 7, 2) := by decide +kernel
theorem dX10_isRunner_8 : decode cX10_isRunner 8 = .ok (.iaload, 1) := by decide +kernel
theorem dX10_isRunner_9 : decode cX10_isRunner 9 = .ok (.iconst 1, 1) := by decide +kernel
theorem dX10_isRunner_10 : decode cX10_isRunner 10 = .ok (.isub, 1) := by decide +kernel
theorem dX10_isRunner_11 : decode cX10_isRunner 11 = .ok (.invokestatic 211, 3) := by decide +kernel
theorem dX10_isRunner_14 : decode cX10_isRunner 14 = .ok (.ireturn, 1) := by decide +kernel
theorem dX10_takenBy_0 : decode cX10_takenBy 0 = .ok (.aload_n 0, 1) := by decide +kernel
theorem dX10_takenBy_1 : decode cX10_takenBy 1 = .ok (.getfield 37, 3) := by decide +kernel
theorem dX10_takenBy_4 : decode cX10_takenBy 4 = .ok (.bipush 98, 2) := by decide +kernel
theorem dX10_takenBy_6 : decode cX10_takenBy 6 = .ok (.iload_n 1, 1) := by decide +kernel
theorem dX10_takenBy_7 : decode cX10_takenBy 7 = .ok (.iadd, 1) := by decide +kernel
theorem dX10_takenBy_8 : decode cX10_takenBy 8 = .ok (.iaload, 1) := by decide +kernel
theorem dX10_takenBy_9 : decode cX10_takenBy 9 = .ok (.aload_n 0, 1) := by decide +kernel
theorem dX10_takenBy_10 : decode cX10_takenBy 10 = .ok (.getfield 37, 3) := by decide +kernel
theorem dX10_takenBy_13 : decode cX10_takenBy 13 = .ok (.iconst 4, 1) := by decide +kernel
theorem dX10_takenBy_14 : decode cX10_takenBy 14 = .ok (.iaload, 1) := by decide +kernel
theorem dX10_takenBy_15 : decode cX10_takenBy 15 = .ok (.aload_n 0, 1) := by decide +kernel
theorem dX10_takenBy_16 : decode cX10_takenBy 16 = .ok (.getfield 37, 3) := by decide +kernel
theorem dX10_takenBy_19 : decode cX10_takenBy 19 = .ok (.bipush 115, 2) := by decide +kernel
theorem dX10_takenBy_21 : decode cX10_takenBy 21 = .ok (.iaload, 1) := by decide +kernel
theorem dX10_takenBy_22 : decode cX10_takenBy 22 = .ok (.iconst 3, 1) := by decide +kernel
theorem dX10_takenBy_23 : decode cX10_takenBy 23 = .ok (.idiv, 1) := by decide +kernel
theorem dX10_takenBy_24 : decode cX10_takenBy 24 = .ok (.iadd, 1) := by decide +kernel
theorem dX10_takenBy_25 : decode cX10_takenBy 25 = .ok (.aload_n 0, 1) := by decide +kernel
theorem dX10_takenBy_26 : decode cX10_takenBy 26 = .ok (.getfield 37, 3) := by decide +kernel
theorem dX10_takenBy_29 : decode cX10_takenBy 29 = .ok (.bipush 92, 2) := by decide +kernel
theorem dX10_takenBy_31 : decode cX10_takenBy 31 = .ok (.iload_n 1, 1) := by decide +kernel
theorem dX10_takenBy_32 : decode cX10_takenBy 32 = .ok (.iadd, 1) := by decide +kernel
theorem dX10_takenBy_33 : decode cX10_takenBy 33 = .ok (.iaload, 1) := by decide +kernel
theorem dX10_takenBy_34 : decode cX10_takenBy 34 = .ok (.invokestatic 295, 3) := by decide +kernel
theorem dX10_takenBy_37 : decode cX10_takenBy 37 = .ok (.imul, 1) := by decide +kernel
theorem dX10_takenBy_38 : decode cX10_takenBy 38 = .ok (.iconst 4, 1) := by decide +kernel
theorem dX10_takenBy_39 : decode cX10_takenBy 39 = .ok (.idiv, 1) := by decide +kernel
theorem dX10_takenBy_40 : decode cX10_takenBy 40 = .ok (.ireturn, 1) := by decide +kernel
theorem dX10_runner_0 : decode cX10_runner 0 = .ok (.aload_n 0, 1) := by decide +kernel
theorem dX10_runner_1 : decode cX10_runner 1 = .ok (.iconst 0, 1) := by decide +kernel
theorem dX10_runner_2 : decode cX10_runner 2 = .ok (.putfield 1, 3) := by decide +kernel
theorem dX10_runner_5 : decode cX10_runner 5 = .ok (.aload_n 0, 1) := by decide +kernel
theorem dX10_runner_6 : decode cX10_runner 6 = .ok (.iload_n 1, 1) := by decide +kernel
theorem dX10_runner_7 : decode cX10_runner 7 = .ok (.invokevirtual 298, 3) := by decide +kernel
theorem dX10_runner_10 : decode cX10_runner 10 = .ok (.ifCond .ne 5, 3) := by decide +kernel
theorem dX10_runner_13 : decode cX10_runner 13 = .ok (.iconst (-1), 1) := by decide +kernel
theorem dX10_runner_14 : decode cX10_runner 14 = .ok (.ireturn, 1) := by decide +kernel
theorem dX10_runner_15 : decode cX10_runner 15 = .ok (.iload_n 2, 1) := by decide +kernel
theorem dX10_runner_16 : decode cX10_runner 16 = .ok (.ifCond .ne 15, 3) := by decide +kernel
theorem dX10_runner_19 : decode cX10_runner 19 = .ok (.aload_n 0, 1) := by decide +kernel
theorem dX10_runner_20 : decode cX10_runner 20 = .ok (.getfield 37, 3) := by decide +kernel
theorem dX10_runner_23 : decode cX10_runner 23 = .ok (.bipush 92, 2) := by decide +kernel
theorem dX10_runner_25 : decode cX10_runner 25 = .ok (.iload_n 1, 1) := by decide +kernel
theorem dX10_runner_26 : decode cX10_runner 26 = .ok (.iadd, 1) := by decide +kernel
theorem dX10_runner_27 : decode cX10_runner 27 = .ok (.iaload, 1) := by decide +kernel
theorem dX10_runner_28 : decode cX10_runner 28 = .ok (.goto 34, 3) := by decide +kernel
theorem dX10_runner_31 : decode cX10_runner 31 = .ok (.iload_n 2, 1) := by decide +kernel
theorem dX10_runner_32 : decode cX10_runner 32 = .ok (.iconst 1, 1) := by decide +kernel
theorem dX10_runner_33 : decode cX10_runner 33 = .ok (.if_icmp .ne 15, 3) := by decide +kernel
theorem dX10_runner_36 : decode cX10_runner 36 = .ok (.aload_n 0, 1) := by decide +kernel
theorem dX10_runner_37 : decode cX10_runner 37 = .ok (.getfield 37, 3) := by decide +kernel
theorem dX10_runner_40 : decode cX10_runner 40 = .ok (.bipush 98, 2) := by decide +kernel
theorem dX10_runner_42 : decode cX10_runner 42 = .ok (.iload_n 1, 1) := by decide +kernel
theorem dX10_runner_43 : decode cX10_runner 43 = .ok (.iadd, 1) := by decide +kernel
theorem dX10_runner_44 : decode cX10_runner 44 = .ok (.iaload, 1) := by decide +kernel
theorem dX10_runner_45 : decode cX10_runner 45 = .ok (.goto 17, 3) := by decide +kernel
theorem dX10_runner_48 : decode cX10_runner 48 = .ok (.iload_n 2, 1) := by decide +kernel
theorem dX10_runner_49 : decode cX10_runner 49 = .ok (.iconst 2, 1) := by decide +kernel
theorem dX10_runner_50 : decode cX10_runner 50 = .ok (.if_icmp .ne 11, 3) := by decide +kernel
theorem dX10_runner_53 : decode cX10_runner 53 = .ok (.aload_n 0, 1) := by decide +kernel
theorem dX10_runner_54 : decode cX10_runner 54 = .ok (.iload_n 1, 1) := by decide +kernel
theorem dX10_runner_55 : decode cX10_runner 55 = .ok (.invokevirtual 301, 3) := by decide +kernel
theorem dX10_runner_58 : decode cX10_runner 58 = .ok (.goto 4, 3) := by decide +kernel
theorem dX10_runner_61 : decode cX10_runner 61 = .ok (.iconst (-1), 1) := by decide +kernel
theorem dX10_runner_62 : decode cX10_runner 62 = .ok (.ireturn, 1) := by decide +kernel
theorem dX10_draw_0 : decode cX10_draw 0 = .ok (.aload_n 0, 1) := by decide +kernel
theorem dX10_draw_1 : decode cX10_draw 1 = .ok (.aload_n 0, 1) := by decide +kernel
theorem dX10_draw_2 : decode cX10_draw 2 = .ok (.getfield 304, 3) := by decide +kernel
theorem dX10_draw_5 : decode cX10_draw 5 = .ok (.ldc_w 307, 3) := by decide +kernel
theorem dX10_draw_8 : decode cX10_draw 8 = .ok (.imul, 1) := by decide +kernel
theorem dX10_draw_9 : decode cX10_draw 9 = .ok (.sipush 12345, 3) := by decide +kernel
theorem dX10_draw_12 : decode cX10_draw 12 = .ok (.iadd, 1) := by decide +kernel
theorem dX10_draw_13 : decode cX10_draw 13 = .ok (.putfield 304, 3) := by decide +kernel
theorem dX10_draw_16 : decode cX10_draw 16 = .ok (.aload_n 0, 1) := by decide +kernel
theorem dX10_draw_17 : decode cX10_draw 17 = .ok (.getfield 304, 3) := by decide +kernel
theorem dX10_draw_20 : decode cX10_draw 20 = .ok (.bipush 8, 2) := by decide +kernel
theorem dX10_draw_22 : decode cX10_draw 22 = .ok (.iushr, 1) := by decide +kernel
theorem dX10_draw_23 : decode cX10_draw 23 = .ok (.iload_n 1, 1) := by decide +kernel
theorem dX10_draw_24 : decode cX10_draw 24 = .ok (.irem, 1) := by decide +kernel
theorem dX10_draw_25 : decode cX10_draw 25 = .ok (.ireturn, 1) := by decide +kernel
theorem dX10_weightOf_0 : decode cX10_weightOf 0 = .ok (.iconst 0, 1) := by decide +kernel
theorem dX10_weightOf_1 : decode cX10_weightOf 1 = .ok (.istore_n 2, 1) := by decide +kernel
theorem dX10_weightOf_2 : decode cX10_weightOf 2 = .ok (.iconst 0, 1) := by decide +kernel
theorem dX10_weightOf_3 : decode cX10_weightOf 3 = .ok (.istore_n 3, 1) := by decide +kernel
theorem dX10_weightOf_4 : decode cX10_weightOf 4 = .ok (.iload_n 3, 1) := by decide +kernel
theorem dX10_weightOf_5 : decode cX10_weightOf 5 = .ok (.iconst 4, 1) := by decide +kernel
theorem dX10_weightOf_6 : decode cX10_weightOf 6 = .ok (.if_icmp .ge 41, 3) := by decide +kernel
theorem dX10_weightOf_9 : decode cX10_weightOf 9 = .ok (.iload_n 2, 1) := by decide +kernel
theorem dX10_weightOf_10 : decode cX10_weightOf 10 = .ok (.iload_n 1, 1) := by decide +kernel
theorem dX10_weightOf_11 : decode cX10_weightOf 11 = .ok (.iload_n 3, 1) := by decide +kernel
theorem dX10_weightOf_12 : decode cX10_weightOf 12 = .ok (.invokestatic 232, 3) := by decide +kernel
theorem dX10_weightOf_15 : decode cX10_weightOf 15 = .ok (.ifCond .eq 23, 3) := by decide +kernel
theorem dX10_weightOf_18 : decode cX10_weightOf 18 = .ok (.aload_n 0, 1) := by decide +kernel
theorem dX10_weightOf_19 : decode cX10_weightOf 19 = .ok (.getfield 37, 3) := by decide +kernel
theorem dX10_weightOf_22 : decode cX10_weightOf 22 = .ok (.bipush 32, 2) := by decide +kernel
theorem dX10_weightOf_24 : decode cX10_weightOf 24 = .ok (.aload_n 0, 1) := by decide +kernel
theorem dX10_weightOf_25 : decode cX10_weightOf 25 = .ok (.getfield 37, 3) := by decide +kernel
theorem dX10_weightOf_28 : decode cX10_weightOf 28 = .ok (.bipush 105, 2) := by decide +kernel
theorem dX10_weightOf_30 : decode cX10_weightOf 30 = .ok (.iload_n 3, 1) := by decide +kernel
theorem dX10_weightOf_31 : decode cX10_weightOf 31 = .ok (.iadd, 1) := by decide +kernel
theorem dX10_weightOf_32 : decode cX10_weightOf 32 = .ok (.iaload, 1) := by decide +kernel
theorem dX10_weightOf_33 : decode cX10_weightOf 33 = .ok (.iadd, 1) := by decide +kernel
theorem dX10_weightOf_34 : decode cX10_weightOf 34 = .ok (.iaload, 1) := by decide +kernel
theorem dX10_weightOf_35 : decode cX10_weightOf 35 = .ok (.goto 4, 3) := by decide +kernel
theorem dX10_weightOf_38 : decode cX10_weightOf 38 = .ok (.iconst 0, 1) := by decide +kernel
theorem dX10_weightOf_39 : decode cX10_weightOf 39 = .ok (.iadd, 1) := by decide +kernel
theorem dX10_weightOf_40 : decode cX10_weightOf 40 = .ok (.istore_n 2, 1) := by decide +kernel
theorem dX10_weightOf_41 : decode cX10_weightOf 41 = .ok (.iinc 3 1, 3) := by decide +kernel
theorem dX10_weightOf_44 : decode cX10_weightOf 44 = .ok (.goto (-40), 3) := by decide +kernel
theorem dX10_weightOf_47 : decode cX10_weightOf 47 = .ok (.iload_n 2, 1) := by decide +kernel
theorem dX10_weightOf_48 : decode cX10_weightOf 48 = .ok (.ireturn, 1) := by decide +kernel
theorem dX10_pushed_0 : decode cX10_pushed 0 = .ok (.iload_n 1, 1) := by decide +kernel
theorem dX10_pushed_1 : decode cX10_pushed 1 = .ok (.iconst 4, 1) := by decide +kernel
theorem dX10_pushed_2 : decode cX10_pushed 2 = .ok (.isub, 1) := by decide +kernel
theorem dX10_pushed_3 : decode cX10_pushed 3 = .ok (.aload_n 0, 1) := by decide +kernel
theorem dX10_pushed_4 : decode cX10_pushed 4 = .ok (.iload_n 3, 1) := by decide +kernel
theorem dX10_pushed_5 : decode cX10_pushed 5 = .ok (.invokevirtual 308, 3) := by decide +kernel
theorem dX10_pushed_8 : decode cX10_pushed 8 = .ok (.bipush 100, 2) := by decide +kernel
theorem dX10_pushed_10 : decode cX10_pushed 10 = .ok (.idiv, 1) := by decide +kernel
theorem dX10_pushed_11 : decode cX10_pushed 11 = .ok (.isub, 1) := by decide +kernel
theorem dX10_pushed_12 : decode cX10_pushed 12 = .ok (.istore 4, 2) := by decide +kernel
theorem dX10_pushed_14 : decode cX10_pushed 14 = .ok (.iconst 0, 1) := by decide +kernel
theorem dX10_pushed_15 : decode cX10_pushed 15 = .ok (.istore 5, 2) := by decide +kernel
theorem dX10_pushed_17 : decode cX10_pushed 17 = .ok (.iload 5, 2) := by decide +kernel
theorem dX10_pushed_19 : decode cX10_pushed 19 = .ok (.iconst 4, 1) := by decide +kernel
theorem dX10_pushed_20 : decode cX10_pushed 20 = .ok (.if_icmp .ge 70, 3) := by decide +kernel
theorem dX10_pushed_23 : decode cX10_pushed 23 = .ok (.iload 4, 2) := by decide +kernel
theorem dX10_pushed_25 : decode cX10_pushed 25 = .ok (.iload_n 2, 1) := by decide +kernel
theorem dX10_pushed_26 : decode cX10_pushed 26 = .ok (.iload 5, 2) := by decide +kernel
theorem dX10_pushed_28 : decode cX10_pushed 28 = .ok (.invokestatic 232, 3) := by decide +kernel
theorem dX10_pushed_31 : decode cX10_pushed 31 = .ok (.ifCond .ne 49, 3) := by decide +kernel
theorem dX10_pushed_34 : decode cX10_pushed 34 = .ok (.iload_n 1, 1) := by decide +kernel
theorem dX10_pushed_35 : decode cX10_pushed 35 = .ok (.bipush 12, 2) := by decide +kernel
theorem dX10_pushed_37 : decode cX10_pushed 37 = .ok (.aload_n 0, 1) := by decide +kernel
theorem dX10_pushed_38 : decode cX10_pushed 38 = .ok (.getfield 37, 3) := by decide +kernel
theorem dX10_pushed_41 : decode cX10_pushed 41 = .ok (.bipush 20, 2) := by decide +kernel
theorem dX10_pushed_43 : decode cX10_pushed 43 = .ok (.aload_n 0, 1) := by decide +kernel
theorem dX10_pushed_44 : decode cX10_pushed 44 = .ok (.getfield 37, 3) := by decide +kernel
theorem dX10_pushed_47 : decode cX10_pushed 47 = .ok (.bipush 105, 2) := by decide +kernel
theorem dX10_pushed_49 : decode cX10_pushed 49 = .ok (.iload 5, 2) := by decide +kernel
theorem dX10_pushed_51 : decode cX10_pushed 51 = .ok (.iadd, 1) := by decide +kernel
theorem dX10_pushed_52 : decode cX10_pushed 52 = .ok (.iaload, 1) := by decide +kernel
theorem dX10_pushed_53 : decode cX10_pushed 53 = .ok (.iadd, 1) := by decide +kernel
theorem dX10_pushed_54 : decode cX10_pushed 54 = .ok (.iaload, 1) := by decide +kernel
theorem dX10_pushed_55 : decode cX10_pushed 55 = .ok (.imul, 1) := by decide +kernel
theorem dX10_pushed_56 : decode cX10_pushed 56 = .ok (.if_icmp .ge 24, 3) := by decide +kernel
theorem dX10_pushed_59 : decode cX10_pushed 59 = .ok (.aload_n 0, 1) := by decide +kernel
theorem dX10_pushed_60 : decode cX10_pushed 60 = .ok (.getfield 37, 3) := by decide +kernel
theorem dX10_pushed_63 : decode cX10_pushed 63 = .ok (.bipush 8, 2) := by decide +kernel
theorem dX10_pushed_65 : decode cX10_pushed 65 = .ok (.aload_n 0, 1) := by decide +kernel
theorem dX10_pushed_66 : decode cX10_pushed 66 = .ok (.getfield 37, 3) := by decide +kernel
theorem dX10_pushed_69 : decode cX10_pushed 69 = .ok (.bipush 105, 2) := by decide +kernel
theorem dX10_pushed_71 : decode cX10_pushed 71 = .ok (.iload 5, 2) := by decide +kernel
theorem dX10_pushed_73 : decode cX10_pushed 73 = .ok (.iadd, 1) := by decide +kernel
theorem dX10_pushed_74 : decode cX10_pushed 74 = .ok (.iaload, 1) := by decide +kernel
theorem dX10_pushed_75 : decode cX10_pushed 75 = .ok (.iadd, 1) := by decide +kernel
theorem dX10_pushed_76 : decode cX10_pushed 76 = .ok (.iaload, 1) := by decide +kernel
theorem dX10_pushed_77 : decode cX10_pushed 77 = .ok (.goto 4, 3) := by decide +kernel
theorem dX10_pushed_80 : decode cX10_pushed 80 = .ok (.iconst 0, 1) := by decide +kernel
theorem dX10_pushed_81 : decode cX10_pushed 81 = .ok (.iadd, 1) := by decide +kernel
theorem dX10_pushed_82 : decode cX10_pushed 82 = .ok (.istore 4, 2) := by decide +kernel
theorem dX10_pushed_84 : decode cX10_pushed 84 = .ok (.iinc 5 1, 3) := by decide +kernel
theorem dX10_pushed_87 : decode cX10_pushed 87 = .ok (.goto (-70), 3) := by decide +kernel
theorem dX10_pushed_90 : decode cX10_pushed 90 = .ok (.iload 4, 2) := by decide +kernel
theorem dX10_pushed_92 : decode cX10_pushed 92 = .ok (.invokestatic 311, 3) := by decide +kernel
theorem dX10_pushed_95 : decode cX10_pushed 95 = .ok (.ireturn, 1) := by decide +kernel
theorem dX10_isLate_0 : decode cX10_isLate 0 = .ok (.bipush 12, 2) := by decide +kernel
theorem dX10_isLate_2 : decode cX10_isLate 2 = .ok (.aload_n 0, 1) := by decide +kernel
theorem dX10_isLate_3 : decode cX10_isLate 3 = .ok (.getfield 37, 3) := by decide +kernel
theorem dX10_isLate_6 : decode cX10_isLate 6 = .ok (.bipush 20, 2) := by decide +kernel
theorem dX10_isLate_8 : decode cX10_isLate 8 = .ok (.aload_n 0, 1) := by decide +kernel
theorem dX10_isLate_9 : decode cX10_isLate 9 = .ok (.getfield 37, 3) := by decide +kernel
theorem dX10_isLate_12 : decode cX10_isLate 12 = .ok (.bipush 105, 2) := by decide +kernel
theorem dX10_isLate_14 : decode cX10_isLate 14 = .ok (.iload_n 2, 1) := by decide +kernel
theorem dX10_isLate_15 : decode cX10_isLate 15 = .ok (.iadd, 1) := by decide +kernel
theorem dX10_isLate_16 : decode cX10_isLate 16 = .ok (.iaload, 1) := by decide +kernel
theorem dX10_isLate_17 : decode cX10_isLate 17 = .ok (.iadd, 1) := by decide +kernel
theorem dX10_isLate_18 : decode cX10_isLate 18 = .ok (.iaload, 1) := by decide +kernel
theorem dX10_isLate_19 : decode cX10_isLate 19 = .ok (.imul, 1) := by decide +kernel
theorem dX10_isLate_20 : decode cX10_isLate 20 = .ok (.bipush 20, 2) := by decide +kernel
theorem dX10_isLate_22 : decode cX10_isLate 22 = .ok (.iadd, 1) := by decide +kernel
theorem dX10_isLate_23 : decode cX10_isLate 23 = .ok (.iload_n 1, 1) := by decide +kernel
theorem dX10_isLate_24 : decode cX10_isLate 24 = .ok (.if_icmp .ge 7, 3) := by decide +kernel
theorem dX10_isLate_27 : decode cX10_isLate 27 = .ok (.iconst 1, 1) := by decide +kernel
theorem dX10_isLate_28 : decode cX10_isLate 28 = .ok (.goto 4, 3) := by decide +kernel
theorem dX10_isLate_31 : decode cX10_isLate 31 = .ok (.iconst 0, 1) := by decide +kernel
theorem dX10_isLate_32 : decode cX10_isLate 32 = .ok (.ireturn, 1) := by decide +kernel
theorem dX10_starts_0 : decode cX10_starts 0 = .ok (.bipush 30, 2) := by decide +kernel
theorem dX10_starts_2 : decode cX10_starts 2 = .ok (.istore_n 1, 1) := by decide +kernel
theorem dX10_starts_3 : decode cX10_starts 3 = .ok (.iconst 0, 1) := by decide +kernel
theorem dX10_starts_4 : decode cX10_starts 4 = .ok (.istore_n 2, 1) := by decide +kernel
theorem dX10_starts_5 : decode cX10_starts 5 = .ok (.aload_n 0, 1) := by decide +kernel
theorem dX10_starts_6 : decode cX10_starts 6 = .ok (.iconst 0, 1) := by decide +kernel
theorem dX10_starts_7 : decode cX10_starts 7 = .ok (.putfield 314, 3) := by decide +kernel
theorem dX10_starts_10 : decode cX10_starts 10 = .ok (.aload_n 0, 1) := by decide +kernel
theorem dX10_starts_11 : decode cX10_starts 11 = .ok (.iconst 0, 1) := by decide +kernel
theorem dX10_starts_12 : decode cX10_starts 12 = .ok (.putfield 317, 3) := by decide +kernel
theorem dX10_starts_15 : decode cX10_starts 15 = .ok (.aload_n 0, 1) := by decide +kernel
theorem dX10_starts_16 : decode cX10_starts 16 = .ok (.iconst 0, 1) := by decide +kernel
theorem dX10_starts_17 : decode cX10_starts 17 = .ok (.putfield 320, 3) := by decide +kernel
theorem dX10_starts_20 : decode cX10_starts 20 = .ok (.iconst 0, 1) := by decide +kernel
theorem dX10_starts_21 : decode cX10_starts 21 = .ok (.istore_n 3, 1) := by decide +kernel
theorem dX10_starts_22 : decode cX10_starts 22 = .ok (.iload_n 3, 1) := by decide +kernel
theorem dX10_starts_23 : decode cX10_starts 23 = .ok (.aload_n 0, 1) := by decide +kernel
theorem dX10_starts_24 : decode cX10_starts 24 = .ok (.getfield 37, 3) := by decide +kernel
theorem dX10_starts_27 : decode cX10_starts 27 = .ok (.iconst 0, 1) := by decide +kernel
theorem dX10_starts_28 : decode cX10_starts 28 = .ok (.iaload, 1) := by decide +kernel
theorem dX10_starts_29 : decode cX10_starts 29 = .ok (.if_icmp .ge 204, 3) := by decide +kernel
theorem dX10_starts_32 : decode cX10_starts 32 = .ok (.aload_n 0, 1) := by decide +kernel
theorem dX10_starts_33 : decode cX10_starts 33 = .ok (.iload_n 1, 1) := by decide +kernel
theorem dX10_starts_34 : decode cX10_starts 34 = .ok (.aload_n 0, 1) := by decide +kernel
theorem dX10_starts_35 : decode cX10_starts 35 = .ok (.getfield 317, 3) := by decide +kernel
theorem dX10_starts_38 : decode cX10_starts 38 = .ok (.aload_n 0, 1) := by decide +kernel
theorem dX10_starts_39 : decode cX10_starts 39 = .ok (.getfield 320, 3) := by decide +kernel
theorem dX10_starts_42 : decode cX10_starts 42 = .ok (.ior, 1) := by decide +kernel
theorem dX10_starts_43 : decode cX10_starts 43 = .ok (.aload_n 0, 1) := by decide +kernel
theorem dX10_starts_44 : decode cX10_starts 44 = .ok (.getfield 317, 3) := by decide +kernel
theorem dX10_starts_47 : decode cX10_starts 47 = .ok (.invokevirtual 323, 3) := by decide +kernel
theorem dX10_starts_50 : decode cX10_starts 50 = .ok (.istore_n 1, 1) := by decide +kernel
theorem dX10_starts_51 : decode cX10_starts 51 = .ok (.iconst 0, 1) := by decide +kernel
theorem dX10_starts_52 : decode cX10_starts 52 = .ok (.istore 4, 2) := by decide +kernel
theorem dX10_starts_54 : decode cX10_starts 54 = .ok (.iconst 0, 1) := by decide +kernel
theorem dX10_starts_55 : decode cX10_starts 55 = .ok (.istore 5, 2) := by decide +kernel
theorem dX10_starts_57 : decode cX10_starts 57 = .ok (.iload 5, 2) := by decide +kernel
theorem dX10_starts_59 : decode cX10_starts 59 = .ok (.iconst 4, 1) := by decide +kernel
theorem dX10_starts_60 : decode cX10_starts 60 = .ok (.if_icmp .ge 143, 3) := by decide +kernel
theorem dX10_starts_63 : decode cX10_starts 63 = .ok (.aload_n 0, 1) := by decide +kernel
theorem dX10_starts_64 : decode cX10_starts 64 = .ok (.getfield 37, 3) := by decide +kernel
theorem dX10_starts_67 : decode cX10_starts 67 = .ok (.bipush 109, 2) := by decide +kernel
theorem dX10_starts_69 : decode cX10_starts 69 = .ok (.iload 5, 2) := by decide +kernel
theorem dX10_starts_71 : decode cX10_starts 71 = .ok (.iadd, 1) := by decide +kernel
theorem dX10_starts_72 : decode cX10_starts 72 = .ok (.iaload, 1) := by decide +kernel
theorem dX10_starts_73 : decode cX10_starts 73 = .ok (.iload_n 3, 1) := by decide +kernel
theorem dX10_starts_74 : decode cX10_starts 74 = .ok (.if_icmp .eq 6, 3) := by decide +kernel
theorem dX10_starts_77 : decode cX10_starts 77 = .ok (.goto 120, 3) := by decide +kernel
theorem dX10_starts_80 : decode cX10_starts 80 = .ok (.aload_n 0, 1) := by decide +kernel
theorem dX10_starts_81 : decode cX10_starts 81 = .ok (.iload_n 1, 1) := by decide +kernel
theorem dX10_starts_82 : decode cX10_starts 82 = .ok (.iload 5, 2) := by decide +kernel
theorem dX10_starts_84 : decode cX10_starts 84 = .ok (.invokevirtual 327, 3) := by decide +kernel
theorem dX10_starts_87 : decode cX10_starts 87 = .ok (.ifCond .eq 27, 3) := by decide +kernel
theorem dX10_starts_90 : decode cX10_starts 90 = .ok (.aload_n 0, 1) := by decide +kernel
theorem dX10_starts_91 : decode cX10_starts 91 = .ok (.dup, 1) := by decide +kernel
theorem dX10_starts_92 : decode cX10_starts 92 = .ok (.getfield 320, 3) := by decide +kernel
theorem dX10_starts_95 : decode cX10_starts 95 = .ok (.iconst 1, 1) := by decide +kernel
theorem dX10_starts_96 : decode cX10_starts 96 = .ok (.iload 5, 2) := by decide +kernel
theorem dX10_starts_98 : decode cX10_starts 98 = .ok (.ishl, 1) := by decide +kernel
theorem dX10_starts_99 : decode cX10_starts 99 = .ok (.ior, 1) := by decide +kernel
theorem dX10_starts_100 : decode cX10_starts 100 = .ok (.putfield 320, 3) := by decide +kernel
theorem dX10_starts_103 : decode cX10_starts 103 = .ok (.aload_n 0, 1) := by decide +kernel
theorem dX10_starts_104 : decode cX10_starts 104 = .ok (.getfield 60, 3) := by decide +kernel
theorem dX10_starts_107 : decode cX10_starts 107 = .ok (.iload 5, 2) := by decide +kernel
theorem dX10_starts_109 : decode cX10_starts 109 = .ok (.iconst 2, 1) := by decide +kernel
theorem dX10_starts_110 : decode cX10_starts 110 = .ok (.iastore, 1) := by decide +kernel
theorem dX10_starts_111 : decode cX10_starts 111 = .ok (.goto 86, 3) := by decide +kernel
theorem dX10_starts_114 : decode cX10_starts 114 = .ok (.aload_n 0, 1) := by decide +kernel
theorem dX10_starts_115 : decode cX10_starts 115 = .ok (.getfield 60, 3) := by decide +kernel
theorem dX10_starts_118 : decode cX10_starts 118 = .ok (.iload 5, 2) := by decide +kernel
theorem dX10_starts_120 : decode cX10_starts 120 = .ok (.iload 4, 2) := by decide +kernel
theorem dX10_starts_122 : decode cX10_starts 122 = .ok (.ifCond .ne 7, 3) := by decide +kernel
theorem dX10_starts_125 : decode cX10_starts 125 = .ok (.iload_n 2, 1) := by decide +kernel
theorem dX10_starts_126 : decode cX10_starts 126 = .ok (.ifCond .eq 7, 3) := by decide +kernel
theorem dX10_starts_129 : decode cX10_starts 129 = .ok (.iconst 1, 1) := by decide +kernel
theorem dX10_starts_130 : decode cX10_starts 130 = .ok (.goto 4, 3) := by decide +kernel
theorem dX10_starts_133 : decode cX10_starts 133 = .ok (.iconst 0, 1) := by decide +kernel
theorem dX10_starts_134 : decode cX10_starts 134 = .ok (.iastore, 1) := by decide +kernel
theorem dX10_starts_135 : decode cX10_starts 135 = .ok (.aload_n 0, 1) := by decide +kernel
theorem dX10_starts_136 : decode cX10_starts 136 = .ok (.dup, 1) := by decide +kernel
theorem dX10_starts_137 : decode cX10_starts 137 = .ok (.getfield 317, 3) := by decide +kernel
theorem dX10_starts_140 : decode cX10_starts 140 = .ok (.iconst 1, 1) := by decide +kernel
theorem dX10_starts_141 : decode cX10_starts 141 = .ok (.iload 5, 2) := by decide +kernel
theorem dX10_starts_143 : decode cX10_starts 143 = .ok (.ishl, 1) := by decide +kernel
theorem dX10_starts_144 : decode cX10_starts 144 = .ok (.ior, 1) := by decide +kernel
theorem dX10_starts_145 : decode cX10_starts 145 = .ok (.putfield 317, 3) := by decide +kernel
theorem dX10_starts_148 : decode cX10_starts 148 = .ok (.iconst 1, 1) := by decide +kernel
theorem dX10_starts_149 : decode cX10_starts 149 = .ok (.istore 4, 2) := by decide +kernel
theorem dX10_starts_151 : decode cX10_starts 151 = .ok (.iload_n 1, 1) := by decide +kernel
theorem dX10_starts_152 : decode cX10_starts 152 = .ok (.aload_n 0, 1) := by decide +kernel
theorem dX10_starts_153 : decode cX10_starts 153 = .ok (.getfield 60, 3) := by decide +kernel
theorem dX10_starts_156 : decode cX10_starts 156 = .ok (.iload 5, 2) := by decide +kernel
theorem dX10_starts_158 : decode cX10_starts 158 = .ok (.iaload, 1) := by decide +kernel
theorem dX10_starts_159 : decode cX10_starts 159 = .ok (.iconst 1, 1) := by decide +kernel
theorem dX10_starts_160 : decode cX10_starts 160 = .ok (.if_icmp .ne 8, 3) := by decide +kernel
theorem dX10_starts_163 : decode cX10_starts 163 = .ok (.bipush 6, 2) := by decide +kernel
theorem dX10_starts_165 : decode cX10_starts 165 = .ok (.goto 4, 3) := by decide +kernel
theorem dX10_starts_168 : decode cX10_starts 168 = .ok (.iconst 2, 1) := by decide +kernel
theorem dX10_starts_169 : decode cX10_starts 169 = .ok (.isub, 1) := by decide +kernel
theorem dX10_starts_170 : decode cX10_starts 170 = .ok (.aload_n 0, 1) := by decide +kernel
theorem dX10_starts_171 : decode cX10_starts 171 = .ok (.getfield 330, 3) := by decide +kernel
theorem dX10_starts_174 : decode cX10_starts 174 = .ok (.ifCond .eq 17, 3) := by decide +kernel
theorem dX10_starts_177 : decode cX10_starts 177 = .ok (.aload_n 0, 1) := by decide +kernel
theorem dX10_starts_178 : decode cX10_starts 178 = .ok (.bipush 8, 2) := by decide +kernel
theorem dX10_starts_180 : decode cX10_starts 180 = .ok (.invokevirtual 334, 3) := by decide +kernel
theorem dX10_starts_183 : decode cX10_starts 183 = .ok (.ifCond .ne 8, 3) := by decide +kernel
theorem dX10_starts_186 : decode cX10_starts 186 = .ok (.bipush 10, 2) := by decide +kernel
theorem dX10_starts_188 : decode cX10_starts 188 = .ok (.goto 4, 3) := by decide +kernel
theorem dX10_starts_191 : decode cX10_starts 191 = .ok (.iconst 0, 1) := by decide +kernel
theorem dX10_starts_192 : decode cX10_starts 192 = .ok (.isub, 1) := by decide +kernel
theorem dX10_starts_193 : decode cX10_starts 193 = .ok (.invokestatic 311, 3) := by decide +kernel
theorem dX10_starts_196 : decode cX10_starts 196 = .ok (.istore_n 1, 1) := by decide +kernel
theorem dX10_starts_197 : decode cX10_starts 197 = .ok (.iinc 5 1, 3) := by decide +kernel
theorem dX10_starts_200 : decode cX10_starts 200 = .ok (.goto (-143), 3) := by decide +kernel
theorem dX10_starts_203 : decode cX10_starts 203 = .ok (.iload 4, 2) := by decide +kernel
theorem dX10_starts_205 : decode cX10_starts 205 = .ok (.istore_n 2, 1) := by decide +kernel
theorem dX10_starts_206 : decode cX10_starts 206 = .ok (.aload_n 0, 1) := by decide +kernel
theorem dX10_starts_207 : decode cX10_starts 207 = .ok (.getfield 57, 3) := by decide +kernel
theorem dX10_starts_210 : decode cX10_starts 210 = .ok (.iload_n 3, 1) := by decide +kernel
theorem dX10_starts_211 : decode cX10_starts 211 = .ok (.iload_n 1, 1) := by decide +kernel
theorem dX10_starts_212 : decode cX10_starts 212 = .ok (.iastore, 1) := by decide +kernel
theorem dX10_starts_213 : decode cX10_starts 213 = .ok (.aload_n 0, 1) := by decide +kernel
theorem dX10_starts_214 : decode cX10_starts 214 = .ok (.dup, 1) := by decide +kernel
theorem dX10_starts_215 : decode cX10_starts 215 = .ok (.getfield 314, 3) := by decide +kernel
theorem dX10_starts_218 : decode cX10_starts 218 = .ok (.sipush 3000, 3) := by decide +kernel
theorem dX10_starts_221 : decode cX10_starts 221 = .ok (.iload_n 1, 1) := by decide +kernel
theorem dX10_starts_222 : decode cX10_starts 222 = .ok (.idiv, 1) := by decide +kernel
theorem dX10_starts_223 : decode cX10_starts 223 = .ok (.iadd, 1) := by decide +kernel
theorem dX10_starts_224 : decode cX10_starts 224 = .ok (.putfield 314, 3) := by decide +kernel
theorem dX10_starts_227 : decode cX10_starts 227 = .ok (.iinc 3 1, 3) := by decide +kernel
theorem dX10_starts_230 : decode cX10_starts 230 = .ok (.goto (-208), 3) := by decide +kernel
theorem dX10_starts_233 : decode cX10_starts 233 = .ok (.aload_n 0, 1) := by decide +kernel
theorem dX10_starts_234 : decode cX10_starts 234 = .ok (.iload_n 1, 1) := by decide +kernel
theorem dX10_starts_235 : decode cX10_starts 235 = .ok (.putfield 337, 3) := by decide +kernel
theorem dX10_starts_238 : decode cX10_starts 238 = .ok (.return_, 1) := by decide +kernel
theorem dX10_weight_0 : decode cX10_weight 0 = .ok (.aload_n 0, 1) := by decide +kernel
theorem dX10_weight_1 : decode cX10_weight 1 = .ok (.getfield 37, 3) := by decide +kernel
theorem dX10_weight_4 : decode cX10_weight 4 = .ok (.iconst 1, 1) := by decide +kernel
theorem dX10_weight_5 : decode cX10_weight 5 = .ok (.iaload, 1) := by decide +kernel
theorem dX10_weight_6 : decode cX10_weight 6 = .ok (.aload_n 0, 1) := by decide +kernel
theorem dX10_weight_7 : decode cX10_weight 7 = .ok (.getfield 37, 3) := by decide +kernel
theorem dX10_weight_10 : decode cX10_weight 10 = .ok (.bipush 113, 2) := by decide +kernel
theorem dX10_weight_12 : decode cX10_weight 12 = .ok (.iaload, 1) := by decide +kernel
theorem dX10_weight_13 : decode cX10_weight 13 = .ok (.iadd, 1) := by decide +kernel
theorem dX10_weight_14 : decode cX10_weight 14 = .ok (.aload_n 0, 1) := by decide +kernel
theorem dX10_weight_15 : decode cX10_weight 15 = .ok (.aload_n 0, 1) := by decide +kernel
theorem dX10_weight_16 : decode cX10_weight 16 = .ok (.getfield 317, 3) := by decide +kernel
theorem dX10_weight_19 : decode cX10_weight 19 = .ok (.invokevirtual 308, 3) := by decide +kernel
theorem dX10_weight_22 : decode cX10_weight 22 = .ok (.iadd, 1) := by decide +kernel
theorem dX10_weight_23 : decode cX10_weight 23 = .ok (.ireturn, 1) := by decide +kernel
theorem dX10_start_0 : decode cX10_start 0 = .ok (.aload_n 0, 1) := by decide +kernel
theorem dX10_start_1 : decode cX10_start 1 = .ok (.iconst 0, 1) := by decide +kernel
theorem dX10_start_2 : decode cX10_start 2 = .ok (.putfield 1, 3) := by decide +kernel
theorem dX10_start_5 : decode cX10_start 5 = .ok (.aload_n 0, 1) := by decide +kernel
theorem dX10_start_6 : decode cX10_start 6 = .ok (.invokevirtual 281, 3) := by decide +kernel
theorem dX10_start_9 : decode cX10_start 9 = .ok (.ifCond .ne 5, 3) := by decide +kernel
theorem dX10_start_12 : decode cX10_start 12 = .ok (.iconst (-1), 1) := by decide +kernel
theorem dX10_start_13 : decode cX10_start 13 = .ok (.ireturn, 1) := by decide +kernel
theorem dX10_start_14 : decode cX10_start 14 = .ok (.aload_n 0, 1) := by decide +kernel
theorem dX10_start_15 : decode cX10_start 15 = .ok (.invokevirtual 340, 3) := by decide +kernel
theorem dX10_start_18 : decode cX10_start 18 = .ok (.iload_n 1, 1) := by decide +kernel
theorem dX10_start_19 : decode cX10_start 19 = .ok (.tableswitch 58 0 4 #[33, 38, 43, 48, 53], 33) := by decide +kernel
theorem dX10_start_52 : decode cX10_start 52 = .ok (.aload_n 0, 1) := by decide +kernel
theorem dX10_start_53 : decode cX10_start 53 = .ok (.getfield 314, 3) := by decide +kernel
theorem dX10_start_56 : decode cX10_start 56 = .ok (.ireturn, 1) := by decide +kernel
theorem dX10_start_57 : decode cX10_start 57 = .ok (.aload_n 0, 1) := by decide +kernel
theorem dX10_start_58 : decode cX10_start 58 = .ok (.getfield 337, 3) := by decide +kernel
theorem dX10_start_61 : decode cX10_start 61 = .ok (.ireturn, 1) := by decide +kernel
theorem dX10_start_62 : decode cX10_start 62 = .ok (.aload_n 0, 1) := by decide +kernel
theorem dX10_start_63 : decode cX10_start 63 = .ok (.getfield 317, 3) := by decide +kernel
theorem dX10_start_66 : decode cX10_start 66 = .ok (.ireturn, 1) := by decide +kernel
theorem dX10_start_67 : decode cX10_start 67 = .ok (.aload_n 0, 1) := by decide +kernel
theorem dX10_start_68 : decode cX10_start 68 = .ok (.getfield 320, 3) := by decide +kernel
theorem dX10_start_71 : decode cX10_start 71 = .ok (.ireturn, 1) := by decide +kernel
theorem dX10_start_72 : decode cX10_start 72 = .ok (.aload_n 0, 1) := by decide +kernel
theorem dX10_start_73 : decode cX10_start 73 = .ok (.invokevirtual 343, 3) := by decide +kernel
theorem dX10_start_76 : decode cX10_start 76 = .ok (.ireturn, 1) := by decide +kernel
theorem dX10_start_77 : decode cX10_start 77 = .ok (.iconst (-1), 1) := by decide +kernel
theorem dX10_start_78 : decode cX10_start 78 = .ok (.ireturn, 1) := by decide +kernel
theorem dX10_pace_0 : decode cX10_pace 0 = .ok (.aload_n 0, 1) := by decide +kernel
theorem dX10_pace_1 : decode cX10_pace 1 = .ok (.iconst 0, 1) := by decide +kernel
theorem dX10_pace_2 : decode cX10_pace 2 = .ok (.putfield 1, 3) := by decide +kernel
theorem dX10_pace_5 : decode cX10_pace 5 = .ok (.aload_n 0, 1) := by decide +kernel
theorem dX10_pace_6 : decode cX10_pace 6 = .ok (.invokevirtual 281, 3) := by decide +kernel
theorem dX10_pace_9 : decode cX10_pace 9 = .ok (.ifCond .eq 19, 3) := by decide +kernel
theorem dX10_pace_12 : decode cX10_pace 12 = .ok (.iload_n 1, 1) := by decide +kernel
theorem dX10_pace_13 : decode cX10_pace 13 = .ok (.iconst 0, 1) := by decide +kernel
theorem dX10_pace_14 : decode cX10_pace 14 = .ok (.aload_n 0, 1) := by decide +kernel
theorem dX10_pace_15 : decode cX10_pace 15 = .ok (.getfield 37, 3) := by decide +kernel
theorem dX10_pace_18 : decode cX10_pace 18 = .ok (.iconst 0, 1) := by decide +kernel
theorem dX10_pace_19 : decode cX10_pace 19 = .ok (.iaload, 1) := by decide +kernel
theorem dX10_pace_20 : decode cX10_pace 20 = .ok (.iconst 1, 1) := by decide +kernel
theorem dX10_pace_21 : decode cX10_pace 21 = .ok (.isub, 1) := by decide +kernel
theorem dX10_pace_22 : decode cX10_pace 22 = .ok (.invokestatic 211, 3) := by decide +kernel
theorem dX10_pace_25 : decode cX10_pace 25 = .ok (.ifCond .ne 5, 3) := by decide +kernel
theorem dX10_pace_28 : decode cX10_pace 28 = .ok (.iconst (-1), 1) := by decide +kernel
theorem dX10_pace_29 : decode cX10_pace 29 = .ok (.ireturn, 1) := by decide +kernel
theorem dX10_pace_30 : decode cX10_pace 30 = .ok (.aload_n 0, 1) := by decide +kernel
theorem dX10_pace_31 : decode cX10_pace 31 = .ok (.invokevirtual 340, 3) := by decide +kernel
theorem dX10_pace_34 : decode cX10_pace 34 = .ok (.aload_n 0, 1) := by decide +kernel
theorem dX10_pace_35 : decode cX10_pace 35 = .ok (.getfield 57, 3) := by decide +kernel
theorem dX10_pace_38 : decode cX10_pace 38 = .ok (.iload_n 1, 1) := by decide +kernel
theorem dX10_pace_39 : decode cX10_pace 39 = .ok (.iaload, 1) := by decide +kernel
theorem dX10_pace_40 : decode cX10_pace 40 = .ok (.ireturn, 1) := by decide +kernel
theorem dX10_jumps_0 : decode cX10_jumps 0 = .ok (.aload_n 0, 1) := by decide +kernel
theorem dX10_jumps_1 : decode cX10_jumps 1 = .ok (.iconst 0, 1) := by decide +kernel
theorem dX10_jumps_2 : decode cX10_jumps 2 = .ok (.putfield 1, 3) := by decide +kernel
theorem dX10_jumps_5 : decode cX10_jumps 5 = .ok (.aload_n 0, 1) := by decide +kernel
theorem dX10_jumps_6 : decode cX10_jumps 6 = .ok (.invokevirtual 281, 3) := by decide +kernel
theorem dX10_jumps_9 : decode cX10_jumps 9 = .ok (.ifCond .eq 12, 3) := by decide +kernel
theorem dX10_jumps_12 : decode cX10_jumps 12 = .ok (.iload_n 1, 1) := by decide +kernel
theorem dX10_jumps_13 : decode cX10_jumps 13 = .ok (.iconst 0, 1) := by decide +kernel
theorem dX10_jumps_14 : decode cX10_jumps 14 = .ok (.iconst 3, 1) := by decide +kernel
theorem dX10_jumps_15 : decode cX10_jumps 15 = .ok (.invokestatic 211, 3) := by decide +kernel
theorem dX10_jumps_18 : decode cX10_jumps 18 = .ok (.ifCond .ne 5, 3) := by decide +kernel
theorem dX10_jumps_21 : decode cX10_jumps 21 = .ok (.iconst (-1), 1) := by decide +kernel
theorem dX10_jumps_22 : decode cX10_jumps 22 = .ok (.ireturn, 1) := by decide +kernel
theorem dX10_jumps_23 : decode cX10_jumps 23 = .ok (.aload_n 0, 1) := by decide +kernel
theorem dX10_jumps_24 : decode cX10_jumps 24 = .ok (.invokevirtual 340, 3) := by decide +kernel
theorem dX10_jumps_27 : decode cX10_jumps 27 = .ok (.aload_n 0, 1) := by decide +kernel
theorem dX10_jumps_28 : decode cX10_jumps 28 = .ok (.getfield 60, 3) := by decide +kernel
theorem dX10_jumps_31 : decode cX10_jumps 31 = .ok (.iload_n 1, 1) := by decide +kernel
theorem dX10_jumps_32 : decode cX10_jumps 32 = .ok (.iaload, 1) := by decide +kernel
theorem dX10_jumps_33 : decode cX10_jumps 33 = .ok (.ireturn, 1) := by decide +kernel
theorem dX10_inBend_0 : decode cX10_inBend 0 = .ok (.iload_n 2, 1) := by decide +kernel
theorem dX10_inBend_1 : decode cX10_inBend 1 = .ok (.aload_n 0, 1) := by decide +kernel
theorem dX10_inBend_2 : decode cX10_inBend 2 = .ok (.getfield 37, 3) := by decide +kernel
theorem dX10_inBend_5 : decode cX10_inBend 5 = .ok (.bipush 56, 2) := by decide +kernel
theorem dX10_inBend_7 : decode cX10_inBend 7 = .ok (.iload_n 1, 1) := by decide +kernel
theorem dX10_inBend_8 : decode cX10_inBend 8 = .ok (.iadd, 1) := by decide +kernel
theorem dX10_inBend_9 : decode cX10_inBend 9 = .ok (.iaload, 1) := by decide +kernel
theorem dX10_inBend_10 : decode cX10_inBend 10 = .ok (.iload_n 3, 1) := by decide +kernel
theorem dX10_inBend_11 : decode cX10_inBend 11 = .ok (.imul, 1) := by decide +kernel
theorem dX10_inBend_12 : decode cX10_inBend 12 = .ok (.bipush 100, 2) := by decide +kernel
theorem dX10_inBend_14 : decode cX10_inBend 14 = .ok (.idiv, 1) := by decide +kernel
theorem dX10_inBend_15 : decode cX10_inBend 15 = .ok (.iadd, 1) := by decide +kernel
theorem dX10_inBend_16 : decode cX10_inBend 16 = .ok (.iconst 3, 1) := by decide +kernel
theorem dX10_inBend_17 : decode cX10_inBend 17 = .ok (.iload 5, 2) := by decide +kernel
theorem dX10_inBend_19 : decode cX10_inBend 19 = .ok (.aload_n 0, 1) := by decide +kernel
theorem dX10_inBend_20 : decode cX10_inBend 20 = .ok (.getfield 37, 3) := by decide +kernel
theorem dX10_inBend_23 : decode cX10_inBend 23 = .ok (.bipush 68, 2) := by decide +kernel
theorem dX10_inBend_25 : decode cX10_inBend 25 = .ok (.iload_n 1, 1) := by decide +kernel
theorem dX10_inBend_26 : decode cX10_inBend 26 = .ok (.iadd, 1) := by decide +kernel
theorem dX10_inBend_27 : decode cX10_inBend 27 = .ok (.iaload, 1) := by decide +kernel
theorem dX10_inBend_28 : decode cX10_inBend 28 = .ok (.invokestatic 295, 3) := by decide +kernel
theorem dX10_inBend_31 : decode cX10_inBend 31 = .ok (.imul, 1) := by decide +kernel
theorem dX10_inBend_32 : decode cX10_inBend 32 = .ok (.isub, 1) := by decide +kernel
theorem dX10_inBend_33 : decode cX10_inBend 33 = .ok (.iconst 2, 1) := by decide +kernel
theorem dX10_inBend_34 : decode cX10_inBend 34 = .ok (.iload 5, 2) := by decide +kernel
theorem dX10_inBend_36 : decode cX10_inBend 36 = .ok (.iload 4, 2) := by decide +kernel
theorem dX10_inBend_38 : decode cX10_inBend 38 = .ok (.invokestatic 295, 3) := by decide +kernel
theorem dX10_inBend_41 : decode cX10_inBend 41 = .ok (.imul, 1) := by decide +kernel
theorem dX10_inBend_42 : decode cX10_inBend 42 = .ok (.isub, 1) := by decide +kernel
theorem dX10_inBend_43 : decode cX10_inBend 43 = .ok (.aload_n 0, 1) := by decide +kernel
theorem dX10_inBend_44 : decode cX10_inBend 44 = .ok (.getfield 37, 3) := by decide +kernel
theorem dX10_inBend_47 : decode cX10_inBend 47 = .ok (.iconst 3, 1) := by decide +kernel
theorem dX10_inBend_48 : decode cX10_inBend 48 = .ok (.iaload, 1) := by decide +kernel
theorem dX10_inBend_49 : decode cX10_inBend 49 = .ok (.isub, 1) := by decide +kernel
theorem dX10_inBend_50 : decode cX10_inBend 50 = .ok (.aload_n 0, 1) := by decide +kernel
theorem dX10_inBend_51 : decode cX10_inBend 51 = .ok (.getfield 37, 3) := by decide +kernel
theorem dX10_inBend_54 : decode cX10_inBend 54 = .ok (.bipush 115, 2) := by decide +kernel
theorem dX10_inBend_56 : decode cX10_inBend 56 = .ok (.iaload, 1) := by decide +kernel
theorem dX10_inBend_57 : decode cX10_inBend 57 = .ok (.iconst 5, 1) := by decide +kernel
theorem dX10_inBend_58 : decode cX10_inBend 58 = .ok (.idiv, 1) := by decide +kernel
theorem dX10_inBend_59 : decode cX10_inBend 59 = .ok (.isub, 1) := by decide +kernel
theorem dX10_inBend_60 : decode cX10_inBend 60 = .ok (.istore 6, 2) := by decide +kernel
theorem dX10_inBend_62 : decode cX10_inBend 62 = .ok (.iload 6, 2) := by decide +kernel
theorem dX10_inBend_64 : decode cX10_inBend 64 = .ok (.aload_n 0, 1) := by decide +kernel
theorem dX10_inBend_65 : decode cX10_inBend 65 = .ok (.getfield 37, 3) := by decide +kernel
theorem dX10_inBend_68 : decode cX10_inBend 68 = .ok (.bipush 7, 2) := by decide +kernel
theorem dX10_inBend_70 : decode cX10_inBend 70 = .ok (.iaload, 1) := by decide +kernel
theorem dX10_inBend_71 : decode cX10_inBend 71 = .ok (.ifCond .le 17, 3) := by decide +kernel
theorem dX10_inBend_74 : decode cX10_inBend 74 = .ok (.aload_n 0, 1) := by decide +kernel
theorem dX10_inBend_75 : decode cX10_inBend 75 = .ok (.aload_n 0, 1) := by decide +kernel
theorem dX10_inBend_76 : decode cX10_inBend 76 = .ok (.getfield 37, 3) := by decide +kernel
theorem dX10_inBend_79 : decode cX10_inBend 79 = .ok (.bipush 114, 2) := by decide +kernel
theorem dX10_inBend_81 : decode cX10_inBend 81 = .ok (.iaload, 1) := by decide +kernel
theorem dX10_inBend_82 : decode cX10_inBend 82 = .ok (.invokevirtual 301, 3) := by decide +kernel
theorem dX10_inBend_85 : decode cX10_inBend 85 = .ok (.goto 4, 3) := by decide +kernel
theorem dX10_inBend_88 : decode cX10_inBend 88 = .ok (.iconst 0, 1) := by decide +kernel
theorem dX10_inBend_89 : decode cX10_inBend 89 = .ok (.isub, 1) := by decide +kernel
theorem dX10_inBend_90 : decode cX10_inBend 90 = .ok (.invokestatic 311, 3) := by decide +kernel
theorem dX10_inBend_93 : decode cX10_inBend 93 = .ok (.ireturn, 1) := by decide +kernel
theorem dX10_isOver_0 : decode cX10_isOver 0 = .ok (.iload_n 2, 1) := by decide +kernel
theorem dX10_isOver_1 : decode cX10_isOver 1 = .ok (.iload_n 3, 1) := by decide +kernel
theorem dX10_isOver_2 : decode cX10_isOver 2 = .ok (.imul, 1) := by decide +kernel
theorem dX10_isOver_3 : decode cX10_isOver 3 = .ok (.bipush 20, 2) := by decide +kernel
theorem dX10_isOver_5 : decode cX10_isOver 5 = .ok (.aload_n 0, 1) := by decide +kernel
theorem dX10_isOver_6 : decode cX10_isOver 6 = .ok (.getfield 37, 3) := by decide +kernel
theorem dX10_isOver_9 : decode cX10_isOver 9 = .ok (.bipush 80, 2) := by decide +kernel
theorem dX10_isOver_11 : decode cX10_isOver 11 = .ok (.iload_n 1, 1) := by decide +kernel
theorem dX10_isOver_12 : decode cX10_isOver 12 = .ok (.iadd, 1) := by decide +kernel
theorem dX10_isOver_13 : decode cX10_isOver 13 = .ok (.iaload, 1) := by decide +kernel
theorem dX10_isOver_14 : decode cX10_isOver 14 = .ok (.imul, 1) := by decide +kernel
theorem dX10_isOver_15 : decode cX10_isOver 15 = .ok (.if_icmp .le 7, 3) := by decide +kernel
theorem dX10_isOver_18 : decode cX10_isOver 18 = .ok (.iconst 1, 1) := by decide +kernel
theorem dX10_isOver_19 : decode cX10_isOver 19 = .ok (.goto 4, 3) := by decide +kernel
theorem dX10_isOver_22 : decode cX10_isOver 22 = .ok (.iconst 0, 1) := by decide +kernel
theorem dX10_isOver_23 : decode cX10_isOver 23 = .ok (.ireturn, 1) := by decide +kernel
theorem dX10_down_0 : decode cX10_down 0 = .ok (.iload_n 1, 1) := by decide +kernel
theorem dX10_down_1 : decode cX10_down 1 = .ok (.istore_n 3, 1) := by decide +kernel
theorem dX10_down_2 : decode cX10_down 2 = .ok (.iconst 0, 1) := by decide +kernel
theorem dX10_down_3 : decode cX10_down 3 = .ok (.istore 4, 2) := by decide +kernel
theorem dX10_down_5 : decode cX10_down 5 = .ok (.iconst 0, 1) := by decide +kernel
theorem dX10_down_6 : decode cX10_down 6 = .ok (.istore 5, 2) := by decide +kernel
theorem dX10_down_8 : decode cX10_down 8 = .ok (.aload_n 0, 1) := by decide +kernel
theorem dX10_down_9 : decode cX10_down 9 = .ok (.iconst 0, 1) := by decide +kernel
theorem dX10_down_10 : decode cX10_down 10 = .ok (.putfield 346, 3) := by decide +kernel
theorem dX10_down_13 : decode cX10_down 13 = .ok (.aload_n 0, 1) := by decide +kernel
theorem dX10_down_14 : decode cX10_down 14 = .ok (.iconst (-1), 1) := by decide +kernel
theorem dX10_down_15 : decode cX10_down 15 = .ok (.putfield 349, 3) := by decide +kernel
theorem dX10_down_18 : decode cX10_down 18 = .ok (.aload_n 0, 1) := by decide +kernel
theorem dX10_down_19 : decode cX10_down 19 = .ok (.iload_n 3, 1) := by decide +kernel
theorem dX10_down_20 : decode cX10_down 20 = .ok (.putfield 352, 3) := by decide +kernel
theorem dX10_down_23 : decode cX10_down 23 = .ok (.iload_n 2, 1) := by decide +kernel
theorem dX10_down_24 : decode cX10_down 24 = .ok (.aload_n 0, 1) := by decide +kernel
theorem dX10_down_25 : decode cX10_down 25 = .ok (.getfield 37, 3) := by decide +kernel
theorem dX10_down_28 : decode cX10_down 28 = .ok (.iconst 2, 1) := by decide +kernel
theorem dX10_down_29 : decode cX10_down 29 = .ok (.iaload, 1) := by decide +kernel
theorem dX10_down_30 : decode cX10_down 30 = .ok (.if_icmp .le 5, 3) := by decide +kernel
theorem dX10_down_33 : decode cX10_down 33 = .ok (.iconst (-1), 1) := by decide +kernel
theorem dX10_down_34 : decode cX10_down 34 = .ok (.ireturn, 1) := by decide +kernel
theorem dX10_down_35 : decode cX10_down 35 = .ok (.iconst 0, 1) := by decide +kernel
theorem dX10_down_36 : decode cX10_down 36 = .ok (.istore 6, 2) := by decide +kernel
theorem dX10_down_38 : decode cX10_down 38 = .ok (.iload 6, 2) := by decide +kernel
theorem dX10_down_40 : decode cX10_down 40 = .ok (.aload_n 0, 1) := by decide +kernel
theorem dX10_down_41 : decode cX10_down 41 = .ok (.getfield 37, 3) := by decide +kernel
theorem dX10_down_44 : decode cX10_down 44 = .ok (.bipush 6, 2) := by decide +kernel
theorem dX10_down_46 : decode cX10_down 46 = .ok (.iaload, 1) := by decide +kernel
theorem dX10_down_47 : decode cX10_down 47 = .ok (.if_icmp .ge 151, 3) := by decide +kernel
theorem dX10_down_50 : decode cX10_down 50 = .ok (.aload_n 0, 1) := by decide +kernel
theorem dX10_down_51 : decode cX10_down 51 = .ok (.iload 6, 2) := by decide +kernel
theorem dX10_down_53 : decode cX10_down 53 = .ok (.iload_n 3, 1) := by decide +kernel
theorem dX10_down_54 : decode cX10_down 54 = .ok (.iload_n 2, 1) := by decide +kernel
theorem dX10_down_55 : decode cX10_down 55 = .ok (.iload 5, 2) := by decide +kernel
theorem dX10_down_57 : decode cX10_down 57 = .ok (.aload_n 0, 1) := by decide +kernel
theorem dX10_down_58 : decode cX10_down 58 = .ok (.getfield 37, 3) := by decide +kernel
theorem dX10_down_61 : decode cX10_down 61 = .ok (.bipush 116, 2) := by decide +kernel
theorem dX10_down_63 : decode cX10_down 63 = .ok (.iload 6, 2) := by decide +kernel
theorem dX10_down_65 : decode cX10_down 65 = .ok (.iadd, 1) := by decide +kernel
theorem dX10_down_66 : decode cX10_down 66 = .ok (.iaload, 1) := by decide +kernel
theorem dX10_down_67 : decode cX10_down 67 = .ok (.invokevirtual 355, 3) := by decide +kernel
theorem dX10_down_70 : decode cX10_down 70 = .ok (.istore_n 3, 1) := by decide +kernel
theorem dX10_down_71 : decode cX10_down 71 = .ok (.aload_n 0, 1) := by decide +kernel
theorem dX10_down_72 : decode cX10_down 72 = .ok (.iload_n 3, 1) := by decide +kernel
theorem dX10_down_73 : decode cX10_down 73 = .ok (.putfield 352, 3) := by decide +kernel
theorem dX10_down_76 : decode cX10_down 76 = .ok (.aload_n 0, 1) := by decide +kernel
theorem dX10_down_77 : decode cX10_down 77 = .ok (.iload 6, 2) := by decide +kernel
theorem dX10_down_79 : decode cX10_down 79 = .ok (.iload_n 3, 1) := by decide +kernel
theorem dX10_down_80 : decode cX10_down 80 = .ok (.aload_n 0, 1) := by decide +kernel
theorem dX10_down_81 : decode cX10_down 81 = .ok (.getfield 37, 3) := by decide +kernel
theorem dX10_down_84 : decode cX10_down 84 = .ok (.bipush 116, 2) := by decide +kernel
theorem dX10_down_86 : decode cX10_down 86 = .ok (.iload 6, 2) := by decide +kernel
theorem dX10_down_88 : decode cX10_down 88 = .ok (.iadd, 1) := by decide +kernel
theorem dX10_down_89 : decode cX10_down 89 = .ok (.iaload, 1) := by decide +kernel
theorem dX10_down_90 : decode cX10_down 90 = .ok (.invokevirtual 359, 3) := by decide +kernel
theorem dX10_down_93 : decode cX10_down 93 = .ok (.ifCond .eq 11, 3) := by decide +kernel
theorem dX10_down_96 : decode cX10_down 96 = .ok (.aload_n 0, 1) := by decide +kernel
theorem dX10_down_97 : decode cX10_down 97 = .ok (.iload 6, 2) := by decide +kernel
theorem dX10_down_99 : decode cX10_down 99 = .ok (.putfield 349, 3) := by decide +kernel
theorem dX10_down_102 : decode cX10_down 102 = .ok (.iconst (-1), 1) := by decide +kernel
theorem dX10_down_103 : decode cX10_down 103 = .ok (.ireturn, 1) := by decide +kernel
theorem dX10_down_104 : decode cX10_down 104 = .ok (.iload 6, 2) := by decide +kernel
theorem dX10_down_106 : decode cX10_down 106 = .ok (.aload_n 0, 1) := by decide +kernel
theorem dX10_down_107 : decode cX10_down 107 = .ok (.getfield 66, 3) := by decide +kernel
theorem dX10_down_110 : decode cX10_down 110 = .ok (.if_icmp .ne 26, 3) := by decide +kernel
theorem dX10_down_113 : decode cX10_down 113 = .ok (.iload_n 3, 1) := by decide +kernel
theorem dX10_down_114 : decode cX10_down 114 = .ok (.aload_n 0, 1) := by decide +kernel
theorem dX10_down_115 : decode cX10_down 115 = .ok (.getfield 362, 3) := by decide +kernel
theorem dX10_down_118 : decode cX10_down 118 = .ok (.isub, 1) := by decide +kernel
theorem dX10_down_119 : decode cX10_down 119 = .ok (.bipush 10, 2) := by decide +kernel
theorem dX10_down_121 : decode cX10_down 121 = .ok (.if_icmp .ge 8, 3) := by decide +kernel
theorem dX10_down_124 : decode cX10_down 124 = .ok (.bipush 10, 2) := by decide +kernel
theorem dX10_down_126 : decode cX10_down 126 = .ok (.goto 9, 3) := by decide +kernel
theorem dX10_down_129 : decode cX10_down 129 = .ok (.iload_n 3, 1) := by decide +kernel
theorem dX10_down_130 : decode cX10_down 130 = .ok (.aload_n 0, 1) := by decide +kernel
theorem dX10_down_131 : decode cX10_down 131 = .ok (.getfield 362, 3) := by decide +kernel
theorem dX10_down_134 : decode cX10_down 134 = .ok (.isub, 1) := by decide +kernel
theorem dX10_down_135 : decode cX10_down 135 = .ok (.istore_n 3, 1) := by decide +kernel
theorem dX10_down_136 : decode cX10_down 136 = .ok (.aload_n 0, 1) := by decide +kernel
theorem dX10_down_137 : decode cX10_down 137 = .ok (.iload_n 3, 1) := by decide +kernel
theorem dX10_down_138 : decode cX10_down 138 = .ok (.putfield 352, 3) := by decide +kernel
theorem dX10_down_141 : decode cX10_down 141 = .ok (.aload_n 0, 1) := by decide +kernel
theorem dX10_down_142 : decode cX10_down 142 = .ok (.getfield 63, 3) := by decide +kernel
theorem dX10_down_145 : decode cX10_down 145 = .ok (.iload 6, 2) := by decide +kernel
theorem dX10_down_147 : decode cX10_down 147 = .ok (.iload_n 3, 1) := by decide +kernel
theorem dX10_down_148 : decode cX10_down 148 = .ok (.iastore, 1) := by decide +kernel
theorem dX10_down_149 : decode cX10_down 149 = .ok (.aload_n 0, 1) := by decide +kernel
theorem dX10_down_150 : decode cX10_down 150 = .ok (.getfield 37, 3) := by decide +kernel
theorem dX10_down_153 : decode cX10_down 153 = .ok (.bipush 116, 2) := by decide +kernel
theorem dX10_down_155 : decode cX10_down 155 = .ok (.iload 6, 2) := by decide +kernel
theorem dX10_down_157 : decode cX10_down 157 = .ok (.iadd, 1) := by decide +kernel
theorem dX10_down_158 : decode cX10_down 158 = .ok (.iaload, 1) := by decide +kernel
theorem dX10_down_159 : decode cX10_down 159 = .ok (.istore 5, 2) := by decide +kernel
theorem dX10_down_161 : decode cX10_down 161 = .ok (.aload_n 0, 1) := by decide +kernel
theorem dX10_down_162 : decode cX10_down 162 = .ok (.dup, 1) := by decide +kernel
theorem dX10_down_163 : decode cX10_down 163 = .ok (.getfield 346, 3) := by decide +kernel
theorem dX10_down_166 : decode cX10_down 166 = .ok (.iconst 1, 1) := by decide +kernel
theorem dX10_down_167 : decode cX10_down 167 = .ok (.iadd, 1) := by decide +kernel
theorem dX10_down_168 : decode cX10_down 168 = .ok (.putfield 346, 3) := by decide +kernel
theorem dX10_down_171 : decode cX10_down 171 = .ok (.iload 4, 2) := by decide +kernel
theorem dX10_down_173 : decode cX10_down 173 = .ok (.aload_n 0, 1) := by decide +kernel
theorem dX10_down_174 : decode cX10_down 174 = .ok (.getfield 37, 3) := by decide +kernel
theorem dX10_down_177 : decode cX10_down 177 = .ok (.bipush 44, 2) := by decide +kernel
theorem dX10_down_179 : decode cX10_down 179 = .ok (.iload 6, 2) := by decide +kernel
theorem dX10_down_181 : decode cX10_down 181 = .ok (.iadd, 1) := by decide +kernel
theorem dX10_down_182 : decode cX10_down 182 = .ok (.iaload, 1) := by decide +kernel
theorem dX10_down_183 : decode cX10_down 183 = .ok (.sipush 3000, 3) := by decide +kernel
theorem dX10_down_186 : decode cX10_down 186 = .ok (.imul, 1) := by decide +kernel
theorem dX10_down_187 : decode cX10_down 187 = .ok (.iload_n 3, 1) := by decide +kernel
theorem dX10_down_188 : decode cX10_down 188 = .ok (.idiv, 1) := by decide +kernel
theorem dX10_down_189 : decode cX10_down 189 = .ok (.iadd, 1) := by decide +kernel
theorem dX10_down_190 : decode cX10_down 190 = .ok (.istore 4, 2) := by decide +kernel
theorem dX10_down_192 : decode cX10_down 192 = .ok (.iinc 6 1, 3) := by decide +kernel
theorem dX10_down_195 : decode cX10_down 195 = .ok (.goto (-157), 3) := by decide +kernel
theorem dX10_down_198 : decode cX10_down 198 = .ok (.iload 4, 2) := by decide +kernel
theorem dX10_down_200 : decode cX10_down 200 = .ok (.ireturn, 1) := by decide +kernel
theorem dX10_total_0 : decode cX10_total 0 = .ok (.aload_n 0, 1) := by decide +kernel
theorem dX10_total_1 : decode cX10_total 1 = .ok (.invokevirtual 340, 3) := by decide +kernel
theorem dX10_total_4 : decode cX10_total 4 = .ok (.aload_n 0, 1) := by decide +kernel
theorem dX10_total_5 : decode cX10_total 5 = .ok (.aload_n 0, 1) := by decide +kernel
theorem dX10_total_6 : decode cX10_total 6 = .ok (.getfield 337, 3) := by decide +kernel
theorem dX10_total_9 : decode cX10_total 9 = .ok (.aload_n 0, 1) := by decide +kernel
theorem dX10_total_10 : decode cX10_total 10 = .ok (.invokevirtual 343, 3) := by decide +kernel
theorem dX10_total_13 : decode cX10_total 13 = .ok (.invokevirtual 365, 3) := by decide +kernel
theorem dX10_total_16 : decode cX10_total 16 = .ok (.istore_n 1, 1) := by decide +kernel
theorem dX10_total_17 : decode cX10_total 17 = .ok (.iload_n 1, 1) := by decide +kernel
theorem dX10_total_18 : decode cX10_total 18 = .ok (.ifCond .ge 7, 3) := by decide +kernel
theorem dX10_total_21 : decode cX10_total 21 = .ok (.iconst (-1), 1) := by decide +kernel
theorem dX10_total_22 : decode cX10_total 22 = .ok (.goto 9, 3) := by decide +kernel
theorem dX10_total_25 : decode cX10_total 25 = .ok (.aload_n 0, 1) := by decide +kernel
theorem dX10_total_26 : decode cX10_total 26 = .ok (.getfield 314, 3) := by decide +kernel
theorem dX10_total_29 : decode cX10_total 29 = .ok (.iload_n 1, 1) := by decide +kernel
theorem dX10_total_30 : decode cX10_total 30 = .ok (.iadd, 1) := by decide +kernel
theorem dX10_total_31 : decode cX10_total 31 = .ok (.ireturn, 1) := by decide +kernel
theorem dX10_run_0 : decode cX10_run 0 = .ok (.aload_n 0, 1) := by decide +kernel
theorem dX10_run_1 : decode cX10_run 1 = .ok (.iconst 0, 1) := by decide +kernel
theorem dX10_run_2 : decode cX10_run 2 = .ok (.putfield 1, 3) := by decide +kernel
theorem dX10_run_5 : decode cX10_run 5 = .ok (.aload_n 0, 1) := by decide +kernel
theorem dX10_run_6 : decode cX10_run 6 = .ok (.invokevirtual 281, 3) := by decide +kernel
theorem dX10_run_9 : decode cX10_run 9 = .ok (.ifCond .ne 5, 3) := by decide +kernel
theorem dX10_run_12 : decode cX10_run 12 = .ok (.iconst (-1), 1) := by decide +kernel
theorem dX10_run_13 : decode cX10_run 13 = .ok (.ireturn, 1) := by decide +kernel
theorem dX10_run_14 : decode cX10_run 14 = .ok (.aload_n 0, 1) := by decide +kernel
theorem dX10_run_15 : decode cX10_run 15 = .ok (.invokevirtual 368, 3) := by decide +kernel
theorem dX10_run_18 : decode cX10_run 18 = .ok (.istore_n 2, 1) := by decide +kernel
theorem dX10_run_19 : decode cX10_run 19 = .ok (.iload_n 1, 1) := by decide +kernel
theorem dX10_run_20 : decode cX10_run 20 = .ok (.tableswitch 49 0 3 #[32, 34, 39, 44], 32) := by decide +kernel
theorem dX10_run_52 : decode cX10_run 52 = .ok (.iload_n 2, 1) := by decide +kernel
theorem dX10_run_53 : decode cX10_run 53 = .ok (.ireturn, 1) := by decide +kernel
theorem dX10_run_54 : decode cX10_run 54 = .ok (.aload_n 0, 1) := by decide +kernel
theorem dX10_run_55 : decode cX10_run 55 = .ok (.getfield 352, 3) := by decide +kernel
theorem dX10_run_58 : decode cX10_run 58 = .ok (.ireturn, 1) := by decide +kernel
theorem dX10_run_59 : decode cX10_run 59 = .ok (.aload_n 0, 1) := by decide +kernel
theorem dX10_run_60 : decode cX10_run 60 = .ok (.getfield 346, 3) := by decide +kernel
theorem dX10_run_63 : decode cX10_run 63 = .ok (.ireturn, 1) := by decide +kernel
theorem dX10_run_64 : decode cX10_run 64 = .ok (.aload_n 0, 1) := by decide +kernel
theorem dX10_run_65 : decode cX10_run 65 = .ok (.getfield 349, 3) := by decide +kernel
theorem dX10_run_68 : decode cX10_run 68 = .ok (.ireturn, 1) := by decide +kernel
theorem dX10_run_69 : decode cX10_run 69 = .ok (.iconst (-1), 1) := by decide +kernel
theorem dX10_run_70 : decode cX10_run 70 = .ok (.ireturn, 1) := by decide +kernel
theorem dX10_behind_0 : decode cX10_behind 0 = .ok (.aload_n 0, 1) := by decide +kernel
theorem dX10_behind_1 : decode cX10_behind 1 = .ok (.iconst 0, 1) := by decide +kernel
theorem dX10_behind_2 : decode cX10_behind 2 = .ok (.putfield 1, 3) := by decide +kernel
theorem dX10_behind_5 : decode cX10_behind 5 = .ok (.aload_n 0, 1) := by decide +kernel
theorem dX10_behind_6 : decode cX10_behind 6 = .ok (.invokevirtual 281, 3) := by decide +kernel
theorem dX10_behind_9 : decode cX10_behind 9 = .ok (.ifCond .ne 5, 3) := by decide +kernel
theorem dX10_behind_12 : decode cX10_behind 12 = .ok (.iconst (-1), 1) := by decide +kernel
theorem dX10_behind_13 : decode cX10_behind 13 = .ok (.ireturn, 1) := by decide +kernel
theorem dX10_behind_14 : decode cX10_behind 14 = .ok (.aload_n 0, 1) := by decide +kernel
theorem dX10_behind_15 : decode cX10_behind 15 = .ok (.invokevirtual 368, 3) := by decide +kernel
theorem dX10_behind_18 : decode cX10_behind 18 = .ok (.pop, 1) := by decide +kernel
theorem dX10_behind_19 : decode cX10_behind 19 = .ok (.iload_n 1, 1) := by decide +kernel
theorem dX10_behind_20 : decode cX10_behind 20 = .ok (.iconst 0, 1) := by decide +kernel
theorem dX10_behind_21 : decode cX10_behind 21 = .ok (.aload_n 0, 1) := by decide +kernel
theorem dX10_behind_22 : decode cX10_behind 22 = .ok (.getfield 346, 3) := by decide +kernel
theorem dX10_behind_25 : decode cX10_behind 25 = .ok (.iconst 1, 1) := by decide +kernel
theorem dX10_behind_26 : decode cX10_behind 26 = .ok (.isub, 1) := by decide +kernel
theorem dX10_behind_27 : decode cX10_behind 27 = .ok (.invokestatic 211, 3) := by decide +kernel
theorem dX10_behind_30 : decode cX10_behind 30 = .ok (.ifCond .eq 12, 3) := by decide +kernel
theorem dX10_behind_33 : decode cX10_behind 33 = .ok (.aload_n 0, 1) := by decide +kernel
theorem dX10_behind_34 : decode cX10_behind 34 = .ok (.getfield 63, 3) := by decide +kernel
theorem dX10_behind_37 : decode cX10_behind 37 = .ok (.iload_n 1, 1) := by decide +kernel
theorem dX10_behind_38 : decode cX10_behind 38 = .ok (.iaload, 1) := by decide +kernel
theorem dX10_behind_39 : decode cX10_behind 39 = .ok (.goto 4, 3) := by decide +kernel
theorem dX10_behind_42 : decode cX10_behind 42 = .ok (.iconst (-1), 1) := by decide +kernel
theorem dX10_behind_43 : decode cX10_behind 43 = .ok (.ireturn, 1) := by decide +kernel
theorem dX10_keeps_0 : decode cX10_keeps 0 = .ok (.aload_n 0, 1) := by decide +kernel
theorem dX10_keeps_1 : decode cX10_keeps 1 = .ok (.getfield 263, 3) := by decide +kernel
theorem dX10_keeps_4 : decode cX10_keeps 4 = .ok (.bipush 8, 2) := by decide +kernel
theorem dX10_keeps_6 : decode cX10_keeps 6 = .ok (.if_icmp .ne 39, 3) := by decide +kernel
theorem dX10_keeps_9 : decode cX10_keeps 9 = .ok (.iconst 0, 1) := by decide +kernel
theorem dX10_keeps_10 : decode cX10_keeps 10 = .ok (.istore_n 1, 1) := by decide +kernel
theorem dX10_keeps_11 : decode cX10_keeps 11 = .ok (.iload_n 1, 1) := by decide +kernel
theorem dX10_keeps_12 : decode cX10_keeps 12 = .ok (.sipush 168, 3) := by decide +kernel
theorem dX10_keeps_15 : decode cX10_keeps 15 = .ok (.if_icmp .ge 24, 3) := by decide +kernel
theorem dX10_keeps_18 : decode cX10_keeps 18 = .ok (.aload_n 0, 1) := by decide +kernel
theorem dX10_keeps_19 : decode cX10_keeps 19 = .ok (.getfield 69, 3) := by decide +kernel
theorem dX10_keeps_22 : decode cX10_keeps 22 = .ok (.iload_n 1, 1) := by decide +kernel
theorem dX10_keeps_23 : decode cX10_keeps 23 = .ok (.aload_n 0, 1) := by decide +kernel
theorem dX10_keeps_24 : decode cX10_keeps 24 = .ok (.getfield 69, 3) := by decide +kernel
theorem dX10_keeps_27 : decode cX10_keeps 27 = .ok (.iload_n 1, 1) := by decide +kernel
theorem dX10_keeps_28 : decode cX10_keeps 28 = .ok (.bipush 24, 2) := by decide +kernel
theorem dX10_keeps_30 : decode cX10_keeps 30 = .ok (.iadd, 1) := by decide +kernel
theorem dX10_keeps_31 : decode cX10_keeps 31 = .ok (.iaload, 1) := by decide +kernel
theorem dX10_keeps_32 : decode cX10_keeps 32 = .ok (.iastore, 1) := by decide +kernel
theorem dX10_keeps_33 : decode cX10_keeps 33 = .ok (.iinc 1 1, 3) := by decide +kernel
theorem dX10_keeps_36 : decode cX10_keeps 36 = .ok (.goto (-25), 3) := by decide +kernel
theorem dX10_keeps_39 : decode cX10_keeps 39 = .ok (.aload_n 0, 1) := by decide +kernel
theorem dX10_keeps_40 : decode cX10_keeps 40 = .ok (.bipush 7, 2) := by decide +kernel
theorem dX10_keeps_42 : decode cX10_keeps 42 = .ok (.putfield 263, 3) := by decide +kernel
theorem dX10_keeps_45 : decode cX10_keeps 45 = .ok (.iconst 0, 1) := by decide +kernel
theorem dX10_keeps_46 : decode cX10_keeps 46 = .ok (.istore_n 1, 1) := by decide +kernel
theorem dX10_keeps_47 : decode cX10_keeps 47 = .ok (.iload_n 1, 1) := by decide +kernel
theorem dX10_keeps_48 : decode cX10_keeps 48 = .ok (.bipush 24, 2) := by decide +kernel
theorem dX10_keeps_50 : decode cX10_keeps 50 = .ok (.if_icmp .ge 32, 3) := by decide +kernel
theorem dX10_keeps_53 : decode cX10_keeps 53 = .ok (.aload_n 0, 1) := by decide +kernel
theorem dX10_keeps_54 : decode cX10_keeps 54 = .ok (.getfield 69, 3) := by decide +kernel
theorem dX10_keeps_57 : decode cX10_keeps 57 = .ok (.bipush 24, 2) := by decide +kernel
theorem dX10_keeps_59 : decode cX10_keeps 59 = .ok (.aload_n 0, 1) := by decide +kernel
theorem dX10_keeps_60 : decode cX10_keeps 60 = .ok (.getfield 263, 3) := by decide +kernel
theorem dX10_keeps_63 : decode cX10_keeps 63 = .ok (.imul, 1) := by decide +kernel
theorem dX10_keeps_64 : decode cX10_keeps 64 = .ok (.iload_n 1, 1) := by decide +kernel
theorem dX10_keeps_65 : decode cX10_keeps 65 = .ok (.iadd, 1) := by decide +kernel
theorem dX10_keeps_66 : decode cX10_keeps 66 = .ok (.aload_n 0, 1) := by decide +kernel
theorem dX10_keeps_67 : decode cX10_keeps 67 = .ok (.getfield 37, 3) := by decide +kernel
theorem dX10_keeps_70 : decode cX10_keeps 70 = .ok (.bipush 104, 2) := by decide +kernel
theorem dX10_keeps_72 : decode cX10_keeps 72 = .ok (.iload_n 1, 1) := by decide +kernel
theorem dX10_keeps_73 : decode cX10_keeps 73 = .ok (.iadd, 1) := by decide +kernel
theorem dX10_keeps_74 : decode cX10_keeps 74 = .ok (.iaload, 1) := by decide +kernel
theorem dX10_keeps_75 : decode cX10_keeps 75 = .ok (.iastore, 1) := by decide +kernel
theorem dX10_keeps_76 : decode cX10_keeps 76 = .ok (.iinc 1 1, 3) := by decide +kernel
theorem dX10_keeps_79 : decode cX10_keeps 79 = .ok (.goto (-32), 3) := by decide +kernel
theorem dX10_keeps_82 : decode cX10_keeps 82 = .ok (.aload_n 0, 1) := by decide +kernel
theorem dX10_keeps_83 : decode cX10_keeps 83 = .ok (.dup, 1) := by decide +kernel
theorem dX10_keeps_84 : decode cX10_keeps 84 = .ok (.getfield 263, 3) := by decide +kernel
theorem dX10_keeps_87 : decode cX10_keeps 87 = .ok (.iconst 1, 1) := by decide +kernel
theorem dX10_keeps_88 : decode cX10_keeps 88 = .ok (.iadd, 1) := by decide +kernel
theorem dX10_keeps_89 : decode cX10_keeps 89 = .ok (.putfield 263, 3) := by decide +kernel
theorem dX10_keeps_92 : decode cX10_keeps 92 = .ok (.return_, 1) := by decide +kernel
theorem dX10_undo_0 : decode cX10_undo 0 = .ok (.aload_n 0, 1) := by decide +kernel
theorem dX10_undo_1 : decode cX10_undo 1 = .ok (.iconst 0, 1) := by decide +kernel
theorem dX10_undo_2 : decode cX10_undo 2 = .ok (.putfield 1, 3) := by decide +kernel
theorem dX10_undo_5 : decode cX10_undo 5 = .ok (.aload_n 0, 1) := by decide +kernel
theorem dX10_undo_6 : decode cX10_undo 6 = .ok (.getfield 263, 3) := by decide +kernel
theorem dX10_undo_9 : decode cX10_undo 9 = .ok (.ifCond .ne 5, 3) := by decide +kernel
theorem dX10_undo_12 : decode cX10_undo 12 = .ok (.iconst (-1), 1) := by decide +kernel
theorem dX10_undo_13 : decode cX10_undo 13 = .ok (.ireturn, 1) := by decide +kernel
theorem dX10_undo_14 : decode cX10_undo 14 = .ok (.aload_n 0, 1) := by decide +kernel
theorem dX10_undo_15 : decode cX10_undo 15 = .ok (.dup, 1) := by decide +kernel
theorem dX10_undo_16 : decode cX10_undo 16 = .ok (.getfield 263, 3) := by decide +kernel
theorem dX10_undo_19 : decode cX10_undo 19 = .ok (.iconst 1, 1) := by decide +kernel
theorem dX10_undo_20 : decode cX10_undo 20 = .ok (.isub, 1) := by decide +kernel
theorem dX10_undo_21 : decode cX10_undo 21 = .ok (.putfield 263, 3) := by decide +kernel
theorem dX10_undo_24 : decode cX10_undo 24 = .ok (.iconst 0, 1) := by decide +kernel
theorem dX10_undo_25 : decode cX10_undo 25 = .ok (.istore_n 1, 1) := by decide +kernel
theorem dX10_undo_26 : decode cX10_undo 26 = .ok (.iload_n 1, 1) := by decide +kernel
theorem dX10_undo_27 : decode cX10_undo 27 = .ok (.bipush 24, 2) := by decide +kernel
theorem dX10_undo_29 : decode cX10_undo 29 = .ok (.if_icmp .ge 32, 3) := by decide +kernel
theorem dX10_undo_32 : decode cX10_undo 32 = .ok (.aload_n 0, 1) := by decide +kernel
theorem dX10_undo_33 : decode cX10_undo 33 = .ok (.getfield 37, 3) := by decide +kernel
theorem dX10_undo_36 : decode cX10_undo 36 = .ok (.bipush 104, 2) := by decide +kernel
theorem dX10_undo_38 : decode cX10_undo 38 = .ok (.iload_n 1, 1) := by decide +kernel
theorem dX10_undo_39 : decode cX10_undo 39 = .ok (.iadd, 1) := by decide +kernel
theorem dX10_undo_40 : decode cX10_undo 40 = .ok (.aload_n 0, 1) := by decide +kernel
theorem dX10_undo_41 : decode cX10_undo 41 = .ok (.getfield 69, 3) := by decide +kernel
theorem dX10_undo_44 : decode cX10_undo 44 = .ok (.bipush 24, 2) := by decide +kernel
theorem dX10_undo_46 : decode cX10_undo 46 = .ok (.aload_n 0, 1) := by decide +kernel
theorem dX10_undo_47 : decode cX10_undo 47 = .ok (.getfield 263, 3) := by decide +kernel
theorem dX10_undo_50 : decode cX10_undo 50 = .ok (.imul, 1) := by decide +kernel
theorem dX10_undo_51 : decode cX10_undo 51 = .ok (.iload_n 1, 1) := by decide +kernel
theorem dX10_undo_52 : decode cX10_undo 52 = .ok (.iadd, 1) := by decide +kernel
theorem dX10_undo_53 : decode cX10_undo 53 = .ok (.iaload, 1) := by decide +kernel
theorem dX10_undo_54 : decode cX10_undo 54 = .ok (.iastore, 1) := by decide +kernel
theorem dX10_undo_55 : decode cX10_undo 55 = .ok (.iinc 1 1, 3) := by decide +kernel
theorem dX10_undo_58 : decode cX10_undo 58 = .ok (.goto (-32), 3) := by decide +kernel
theorem dX10_undo_61 : decode cX10_undo 61 = .ok (.aload_n 0, 1) := by decide +kernel
theorem dX10_undo_62 : decode cX10_undo 62 = .ok (.getfield 263, 3) := by decide +kernel
theorem dX10_undo_65 : decode cX10_undo 65 = .ok (.ireturn, 1) := by decide +kernel
theorem dX10_tries_0 : decode cX10_tries 0 = .ok (.iconst 0, 1) := by decide +kernel
theorem dX10_tries_1 : decode cX10_tries 1 = .ok (.istore_n 1, 1) := by decide +kernel
theorem dX10_tries_2 : decode cX10_tries 2 = .ok (.iload_n 1, 1) := by decide +kernel
theorem dX10_tries_3 : decode cX10_tries 3 = .ok (.bipush 24, 2) := by decide +kernel
theorem dX10_tries_5 : decode cX10_tries 5 = .ok (.if_icmp .ge 24, 3) := by decide +kernel
theorem dX10_tries_8 : decode cX10_tries 8 = .ok (.aload_n 0, 1) := by decide +kernel
theorem dX10_tries_9 : decode cX10_tries 9 = .ok (.getfield 72, 3) := by decide +kernel
theorem dX10_tries_12 : decode cX10_tries 12 = .ok (.iload_n 1, 1) := by decide +kernel
theorem dX10_tries_13 : decode cX10_tries 13 = .ok (.aload_n 0, 1) := by decide +kernel
theorem dX10_tries_14 : decode cX10_tries 14 = .ok (.getfield 37, 3) := by decide +kernel
theorem dX10_tries_17 : decode cX10_tries 17 = .ok (.bipush 104, 2) := by decide +kernel
theorem dX10_tries_19 : decode cX10_tries 19 = .ok (.iload_n 1, 1) := by decide +kernel
theorem dX10_tries_20 : decode cX10_tries 20 = .ok (.iadd, 1) := by decide +kernel
theorem dX10_tries_21 : decode cX10_tries 21 = .ok (.iaload, 1) := by decide +kernel
theorem dX10_tries_22 : decode cX10_tries 22 = .ok (.iastore, 1) := by decide +kernel
theorem dX10_tries_23 : decode cX10_tries 23 = .ok (.iinc 1 1, 3) := by decide +kernel
theorem dX10_tries_26 : decode cX10_tries 26 = .ok (.goto (-24), 3) := by decide +kernel
theorem dX10_tries_29 : decode cX10_tries 29 = .ok (.return_, 1) := by decide +kernel
theorem dX10_back_0 : decode cX10_back 0 = .ok (.iconst 0, 1) := by decide +kernel
theorem dX10_back_1 : decode cX10_back 1 = .ok (.istore_n 1, 1) := by decide +kernel
theorem dX10_back_2 : decode cX10_back 2 = .ok (.iload_n 1, 1) := by decide +kernel
theorem dX10_back_3 : decode cX10_back 3 = .ok (.bipush 24, 2) := by decide +kernel
theorem dX10_back_5 : decode cX10_back 5 = .ok (.if_icmp .ge 24, 3) := by decide +kernel
theorem dX10_back_8 : decode cX10_back 8 = .ok (.aload_n 0, 1) := by decide +kernel
theorem dX10_back_9 : decode cX10_back 9 = .ok (.getfield 37, 3) := by decide +kernel
theorem dX10_back_12 : decode cX10_back 12 = .ok (.bipush 104, 2) := by decide +kernel
theorem dX10_back_14 : decode cX10_back 14 = .ok (.iload_n 1, 1) := by decide +kernel
theorem dX10_back_15 : decode cX10_back 15 = .ok (.iadd, 1) := by decide +kernel
theorem dX10_back_16 : decode cX10_back 16 = .ok (.aload_n 0, 1) := by decide +kernel
theorem dX10_back_17 : decode cX10_back 17 = .ok (.getfield 72, 3) := by decide +kernel
theorem dX10_back_20 : decode cX10_back 20 = .ok (.iload_n 1, 1) := by decide +kernel
theorem dX10_back_21 : decode cX10_back 21 = .ok (.iaload, 1) := by decide +kernel
theorem dX10_back_22 : decode cX10_back 22 = .ok (.iastore, 1) := by decide +kernel
theorem dX10_back_23 : decode cX10_back 23 = .ok (.iinc 1 1, 3) := by decide +kernel
theorem dX10_back_26 : decode cX10_back 26 = .ok (.goto (-24), 3) := by decide +kernel
theorem dX10_back_29 : decode cX10_back 29 = .ok (.return_, 1) := by decide +kernel
theorem dX10_becomes_0 : decode cX10_becomes 0 = .ok (.aload_n 0, 1) := by decide +kernel
theorem dX10_becomes_1 : decode cX10_becomes 1 = .ok (.getfield 37, 3) := by decide +kernel
theorem dX10_becomes_4 : decode cX10_becomes 4 = .ok (.iload_n 1, 1) := by decide +kernel
theorem dX10_becomes_5 : decode cX10_becomes 5 = .ok (.iaload, 1) := by decide +kernel
theorem dX10_becomes_6 : decode cX10_becomes 6 = .ok (.iload_n 2, 1) := by decide +kernel
theorem dX10_becomes_7 : decode cX10_becomes 7 = .ok (.if_icmp .ne 5, 3) := by decide +kernel
theorem dX10_becomes_10 : decode cX10_becomes 10 = .ok (.iconst 0, 1) := by decide +kernel
theorem dX10_becomes_11 : decode cX10_becomes 11 = .ok (.ireturn, 1) := by decide +kernel
theorem dX10_becomes_12 : decode cX10_becomes 12 = .ok (.aload_n 0, 1) := by decide +kernel
theorem dX10_becomes_13 : decode cX10_becomes 13 = .ok (.invokevirtual 371, 3) := by decide +kernel
theorem dX10_becomes_16 : decode cX10_becomes 16 = .ok (.aload_n 0, 1) := by decide +kernel
theorem dX10_becomes_17 : decode cX10_becomes 17 = .ok (.getfield 37, 3) := by decide +kernel
theorem dX10_becomes_20 : decode cX10_becomes 20 = .ok (.iload_n 1, 1) := by decide +kernel
theorem dX10_becomes_21 : decode cX10_becomes 21 = .ok (.iload_n 2, 1) := by decide +kernel
theorem dX10_becomes_22 : decode cX10_becomes 22 = .ok (.iastore, 1) := by decide +kernel
theorem dX10_becomes_23 : decode cX10_becomes 23 = .ok (.iconst 1, 1) := by decide +kernel
theorem dX10_becomes_24 : decode cX10_becomes 24 = .ok (.ireturn, 1) := by decide +kernel
theorem dX10_jump_0 : decode cX10_jump 0 = .ok (.aload_n 0, 1) := by decide +kernel
theorem dX10_jump_1 : decode cX10_jump 1 = .ok (.iconst 0, 1) := by decide +kernel
theorem dX10_jump_2 : decode cX10_jump 2 = .ok (.putfield 1, 3) := by decide +kernel
theorem dX10_jump_5 : decode cX10_jump 5 = .ok (.aload_n 0, 1) := by decide +kernel
theorem dX10_jump_6 : decode cX10_jump 6 = .ok (.invokevirtual 281, 3) := by decide +kernel
theorem dX10_jump_9 : decode cX10_jump 9 = .ok (.ifCond .eq 44, 3) := by decide +kernel
theorem dX10_jump_12 : decode cX10_jump 12 = .ok (.iload_n 1, 1) := by decide +kernel
theorem dX10_jump_13 : decode cX10_jump 13 = .ok (.iconst 0, 1) := by decide +kernel
theorem dX10_jump_14 : decode cX10_jump 14 = .ok (.iconst 3, 1) := by decide +kernel
theorem dX10_jump_15 : decode cX10_jump 15 = .ok (.invokestatic 211, 3) := by decide +kernel
theorem dX10_jump_18 : decode cX10_jump 18 = .ok (.ifCond .eq 35, 3) := by decide +kernel
theorem dX10_jump_21 : decode cX10_jump 21 = .ok (.iload_n 2, 1) := by decide +kernel
theorem dX10_jump_22 : decode cX10_jump 22 = .ok (.iconst 0, 1) := by decide +kernel
theorem dX10_jump_23 : decode cX10_jump 23 = .ok (.aload_n 0, 1) := by decide +kernel
theorem dX10_jump_24 : decode cX10_jump 24 = .ok (.getfield 37, 3) := by decide +kernel
theorem dX10_jump_27 : decode cX10_jump 27 = .ok (.iconst 0, 1) := by decide +kernel
theorem dX10_jump_28 : decode cX10_jump 28 = .ok (.iaload, 1) := by decide +kernel
theorem dX10_jump_29 : decode cX10_jump 29 = .ok (.iconst 1, 1) := by decide +kernel
theorem dX10_jump_30 : decode cX10_jump 30 = .ok (.isub, 1) := by decide +kernel
theorem dX10_jump_31 : decode cX10_jump 31 = .ok (.invokestatic 211, 3) := by decide +kernel
theorem dX10_jump_34 : decode cX10_jump 34 = .ok (.ifCond .eq 19, 3) := by decide +kernel
theorem dX10_jump_37 : decode cX10_jump 37 = .ok (.aload_n 0, 1) := by decide +kernel
theorem dX10_jump_38 : decode cX10_jump 38 = .ok (.bipush 109, 2) := by decide +kernel
theorem dX10_jump_40 : decode cX10_jump 40 = .ok (.iload_n 1, 1) := by decide +kernel
theorem dX10_jump_41 : decode cX10_jump 41 = .ok (.iadd, 1) := by decide +kernel
theorem dX10_jump_42 : decode cX10_jump 42 = .ok (.iload_n 2, 1) := by decide +kernel
theorem dX10_jump_43 : decode cX10_jump 43 = .ok (.invokevirtual 374, 3) := by decide +kernel
theorem dX10_jump_46 : decode cX10_jump 46 = .ok (.ifCond .eq 7, 3) := by decide +kernel
theorem dX10_jump_49 : decode cX10_jump 49 = .ok (.iconst 1, 1) := by decide +kernel
theorem dX10_jump_50 : decode cX10_jump 50 = .ok (.goto 4, 3) := by decide +kernel
theorem dX10_jump_53 : decode cX10_jump 53 = .ok (.iconst 0, 1) := by decide +kernel
theorem dX10_jump_54 : decode cX10_jump 54 = .ok (.ireturn, 1) := by decide +kernel
theorem dX10_high_0 : decode cX10_high 0 = .ok (.aload_n 0, 1) := by decide +kernel
theorem dX10_high_1 : decode cX10_high 1 = .ok (.iconst 0, 1) := by decide +kernel
theorem dX10_high_2 : decode cX10_high 2 = .ok (.putfield 1, 3) := by decide +kernel
theorem dX10_high_5 : decode cX10_high 5 = .ok (.aload_n 0, 1) := by decide +kernel
theorem dX10_high_6 : decode cX10_high 6 = .ok (.iload_n 1, 1) := by decide +kernel
theorem dX10_high_7 : decode cX10_high 7 = .ok (.invokevirtual 292, 3) := by decide +kernel
theorem dX10_high_10 : decode cX10_high 10 = .ok (.ifCond .eq 29, 3) := by decide +kernel
theorem dX10_high_13 : decode cX10_high 13 = .ok (.iload_n 2, 1) := by decide +kernel
theorem dX10_high_14 : decode cX10_high 14 = .ok (.iconst 0, 1) := by decide +kernel
theorem dX10_high_15 : decode cX10_high 15 = .ok (.bipush 9, 2) := by decide +kernel
theorem dX10_high_17 : decode cX10_high 17 = .ok (.invokestatic 211, 3) := by decide +kernel
theorem dX10_high_20 : decode cX10_high 20 = .ok (.ifCond .eq 19, 3) := by decide +kernel
theorem dX10_high_23 : decode cX10_high 23 = .ok (.aload_n 0, 1) := by decide +kernel
theorem dX10_high_24 : decode cX10_high 24 = .ok (.bipush 116, 2) := by decide +kernel
theorem dX10_high_26 : decode cX10_high 26 = .ok (.iload_n 1, 1) := by decide +kernel
theorem dX10_high_27 : decode cX10_high 27 = .ok (.iadd, 1) := by decide +kernel
theorem dX10_high_28 : decode cX10_high 28 = .ok (.iload_n 2, 1) := by decide +kernel
theorem dX10_high_29 : decode cX10_high 29 = .ok (.invokevirtual 374, 3) := by decide +kernel
theorem dX10_high_32 : decode cX10_high 32 = .ok (.ifCond .eq 7, 3) := by decide +kernel
theorem dX10_high_35 : decode cX10_high 35 = .ok (.iconst 1, 1) := by decide +kernel
theorem dX10_high_36 : decode cX10_high 36 = .ok (.goto 4, 3) := by decide +kernel
theorem dX10_high_39 : decode cX10_high 39 = .ok (.iconst 0, 1) := by decide +kernel
theorem dX10_high_40 : decode cX10_high 40 = .ok (.ireturn, 1) := by decide +kernel
theorem dX10_set_0 : decode cX10_set 0 = .ok (.aload_n 0, 1) := by decide +kernel
theorem dX10_set_1 : decode cX10_set 1 = .ok (.iconst 0, 1) := by decide +kernel
theorem dX10_set_2 : decode cX10_set 2 = .ok (.putfield 1, 3) := by decide +kernel
theorem dX10_set_5 : decode cX10_set 5 = .ok (.iload_n 1, 1) := by decide +kernel
theorem dX10_set_6 : decode cX10_set 6 = .ok (.ifCond .ne 29, 3) := by decide +kernel
theorem dX10_set_9 : decode cX10_set 9 = .ok (.iload_n 2, 1) := by decide +kernel
theorem dX10_set_10 : decode cX10_set 10 = .ok (.iconst 0, 1) := by decide +kernel
theorem dX10_set_11 : decode cX10_set 11 = .ok (.bipush 99, 2) := by decide +kernel
theorem dX10_set_13 : decode cX10_set 13 = .ok (.invokestatic 211, 3) := by decide +kernel
theorem dX10_set_16 : decode cX10_set 16 = .ok (.ifCond .eq 17, 3) := by decide +kernel
theorem dX10_set_19 : decode cX10_set 19 = .ok (.aload_n 0, 1) := by decide +kernel
theorem dX10_set_20 : decode cX10_set 20 = .ok (.bipush 113, 2) := by decide +kernel
theorem dX10_set_22 : decode cX10_set 22 = .ok (.iload_n 2, 1) := by decide +kernel
theorem dX10_set_23 : decode cX10_set 23 = .ok (.invokevirtual 374, 3) := by decide +kernel
theorem dX10_set_26 : decode cX10_set 26 = .ok (.ifCond .eq 7, 3) := by decide +kernel
theorem dX10_set_29 : decode cX10_set 29 = .ok (.iconst 1, 1) := by decide +kernel
theorem dX10_set_30 : decode cX10_set 30 = .ok (.goto 4, 3) := by decide +kernel
theorem dX10_set_33 : decode cX10_set 33 = .ok (.iconst 0, 1) := by decide +kernel
theorem dX10_set_34 : decode cX10_set 34 = .ok (.ireturn, 1) := by decide +kernel
theorem dX10_set_35 : decode cX10_set 35 = .ok (.iload_n 1, 1) := by decide +kernel
theorem dX10_set_36 : decode cX10_set 36 = .ok (.iconst 1, 1) := by decide +kernel
theorem dX10_set_37 : decode cX10_set 37 = .ok (.if_icmp .ne 27, 3) := by decide +kernel
theorem dX10_set_40 : decode cX10_set 40 = .ok (.aload_n 0, 1) := by decide +kernel
theorem dX10_set_41 : decode cX10_set 41 = .ok (.iload_n 2, 1) := by decide +kernel
theorem dX10_set_42 : decode cX10_set 42 = .ok (.invokevirtual 298, 3) := by decide +kernel
theorem dX10_set_45 : decode cX10_set 45 = .ok (.ifCond .eq 17, 3) := by decide +kernel
theorem dX10_set_48 : decode cX10_set 48 = .ok (.aload_n 0, 1) := by decide +kernel
theorem dX10_set_49 : decode cX10_set 49 = .ok (.bipush 114, 2) := by decide +kernel
theorem dX10_set_51 : decode cX10_set 51 = .ok (.iload_n 2, 1) := by decide +kernel
theorem dX10_set_52 : decode cX10_set 52 = .ok (.invokevirtual 374, 3) := by decide +kernel
theorem dX10_set_55 : decode cX10_set 55 = .ok (.ifCond .eq 7, 3) := by decide +kernel
theorem dX10_set_58 : decode cX10_set 58 = .ok (.iconst 1, 1) := by decide +kernel
theorem dX10_set_59 : decode cX10_set 59 = .ok (.goto 4, 3) := by decide +kernel
theorem dX10_set_62 : decode cX10_set 62 = .ok (.iconst 0, 1) := by decide +kernel
theorem dX10_set_63 : decode cX10_set 63 = .ok (.ireturn, 1) := by decide +kernel
theorem dX10_set_64 : decode cX10_set 64 = .ok (.iload_n 1, 1) := by decide +kernel
theorem dX10_set_65 : decode cX10_set 65 = .ok (.iconst 2, 1) := by decide +kernel
theorem dX10_set_66 : decode cX10_set 66 = .ok (.if_icmp .ne 27, 3) := by decide +kernel
theorem dX10_set_69 : decode cX10_set 69 = .ok (.iload_n 2, 1) := by decide +kernel
theorem dX10_set_70 : decode cX10_set 70 = .ok (.iconst 1, 1) := by decide +kernel
theorem dX10_set_71 : decode cX10_set 71 = .ok (.bipush 60, 2) := by decide +kernel
theorem dX10_set_73 : decode cX10_set 73 = .ok (.invokestatic 211, 3) := by decide +kernel
theorem dX10_set_76 : decode cX10_set 76 = .ok (.ifCond .eq 17, 3) := by decide +kernel
theorem dX10_set_79 : decode cX10_set 79 = .ok (.aload_n 0, 1) := by decide +kernel
theorem dX10_set_80 : decode cX10_set 80 = .ok (.bipush 115, 2) := by decide +kernel
theorem dX10_set_82 : decode cX10_set 82 = .ok (.iload_n 2, 1) := by decide +kernel
theorem dX10_set_83 : decode cX10_set 83 = .ok (.invokevirtual 374, 3) := by decide +kernel
theorem dX10_set_86 : decode cX10_set 86 = .ok (.ifCond .eq 7, 3) := by decide +kernel
theorem dX10_set_89 : decode cX10_set 89 = .ok (.iconst 1, 1) := by decide +kernel
theorem dX10_set_90 : decode cX10_set 90 = .ok (.goto 4, 3) := by decide +kernel
theorem dX10_set_93 : decode cX10_set 93 = .ok (.iconst 0, 1) := by decide +kernel
theorem dX10_set_94 : decode cX10_set 94 = .ok (.ireturn, 1) := by decide +kernel
theorem dX10_swap_0 : decode cX10_swap 0 = .ok (.aload_n 0, 1) := by decide +kernel
theorem dX10_swap_1 : decode cX10_swap 1 = .ok (.iconst 0, 1) := by decide +kernel
theorem dX10_swap_2 : decode cX10_swap 2 = .ok (.putfield 1, 3) := by decide +kernel
theorem dX10_swap_5 : decode cX10_swap 5 = .ok (.aload_n 0, 1) := by decide +kernel
theorem dX10_swap_6 : decode cX10_swap 6 = .ok (.invokevirtual 281, 3) := by decide +kernel
theorem dX10_swap_9 : decode cX10_swap 9 = .ok (.ifCond .eq 26, 3) := by decide +kernel
theorem dX10_swap_12 : decode cX10_swap 12 = .ok (.iload_n 1, 1) := by decide +kernel
theorem dX10_swap_13 : decode cX10_swap 13 = .ok (.iconst 0, 1) := by decide +kernel
theorem dX10_swap_14 : decode cX10_swap 14 = .ok (.iconst 3, 1) := by decide +kernel
theorem dX10_swap_15 : decode cX10_swap 15 = .ok (.invokestatic 211, 3) := by decide +kernel
theorem dX10_swap_18 : decode cX10_swap 18 = .ok (.ifCond .eq 17, 3) := by decide +kernel
theorem dX10_swap_21 : decode cX10_swap 21 = .ok (.iload_n 2, 1) := by decide +kernel
theorem dX10_swap_22 : decode cX10_swap 22 = .ok (.iconst 0, 1) := by decide +kernel
theorem dX10_swap_23 : decode cX10_swap 23 = .ok (.iconst 3, 1) := by decide +kernel
theorem dX10_swap_24 : decode cX10_swap 24 = .ok (.invokestatic 211, 3) := by decide +kernel
theorem dX10_swap_27 : decode cX10_swap 27 = .ok (.ifCond .eq 8, 3) := by decide +kernel
theorem dX10_swap_30 : decode cX10_swap 30 = .ok (.iload_n 1, 1) := by decide +kernel
theorem dX10_swap_31 : decode cX10_swap 31 = .ok (.iload_n 2, 1) := by decide +kernel
theorem dX10_swap_32 : decode cX10_swap 32 = .ok (.if_icmp .ne 5, 3) := by decide +kernel
theorem dX10_swap_35 : decode cX10_swap 35 = .ok (.iconst 0, 1) := by decide +kernel
theorem dX10_swap_36 : decode cX10_swap 36 = .ok (.ireturn, 1) := by decide +kernel
theorem dX10_swap_37 : decode cX10_swap 37 = .ok (.aload_n 0, 1) := by decide +kernel
theorem dX10_swap_38 : decode cX10_swap 38 = .ok (.invokevirtual 371, 3) := by decide +kernel
theorem dX10_swap_41 : decode cX10_swap 41 = .ok (.aload_n 0, 1) := by decide +kernel
theorem dX10_swap_42 : decode cX10_swap 42 = .ok (.getfield 37, 3) := by decide +kernel
theorem dX10_swap_45 : decode cX10_swap 45 = .ok (.bipush 105, 2) := by decide +kernel
theorem dX10_swap_47 : decode cX10_swap 47 = .ok (.iload_n 1, 1) := by decide +kernel
theorem dX10_swap_48 : decode cX10_swap 48 = .ok (.iadd, 1) := by decide +kernel
theorem dX10_swap_49 : decode cX10_swap 49 = .ok (.iaload, 1) := by decide +kernel
theorem dX10_swap_50 : decode cX10_swap 50 = .ok (.istore_n 3, 1) := by decide +kernel
theorem dX10_swap_51 : decode cX10_swap 51 = .ok (.aload_n 0, 1) := by decide +kernel
theorem dX10_swap_52 : decode cX10_swap 52 = .ok (.getfield 37, 3) := by decide +kernel
theorem dX10_swap_55 : decode cX10_swap 55 = .ok (.bipush 109, 2) := by decide +kernel
theorem dX10_swap_57 : decode cX10_swap 57 = .ok (.iload_n 1, 1) := by decide +kernel
theorem dX10_swap_58 : decode cX10_swap 58 = .ok (.iadd, 1) := by decide +kernel
theorem dX10_swap_59 : decode cX10_swap 59 = .ok (.iaload, 1) := by decide +kernel
theorem dX10_swap_60 : decode cX10_swap 60 = .ok (.istore 4, 2) := by decide +kernel
theorem dX10_swap_62 : decode cX10_swap 62 = .ok (.aload_n 0, 1) := by decide +kernel
theorem dX10_swap_63 : decode cX10_swap 63 = .ok (.getfield 37, 3) := by decide +kernel
theorem dX10_swap_66 : decode cX10_swap 66 = .ok (.bipush 105, 2) := by decide +kernel
theorem dX10_swap_68 : decode cX10_swap 68 = .ok (.iload_n 1, 1) := by decide +kernel
theorem dX10_swap_69 : decode cX10_swap 69 = .ok (.iadd, 1) := by decide +kernel
theorem dX10_swap_70 : decode cX10_swap 70 = .ok (.aload_n 0, 1) := by decide +kernel
theorem dX10_swap_71 : decode cX10_swap 71 = .ok (.getfield 37, 3) := by decide +kernel
theorem dX10_swap_74 : decode cX10_swap 74 = .ok (.bipush 105, 2) := by decide +kernel
theorem dX10_swap_76 : decode cX10_swap 76 = .ok (.iload_n 2, 1) := by decide +kernel
theorem dX10_swap_77 : decode cX10_swap 77 = .ok (.iadd, 1) := by decide +kernel
theorem dX10_swap_78 : decode cX10_swap 78 = .ok (.iaload, 1) := by decide +kernel
theorem dX10_swap_79 : decode cX10_swap 79 = .ok (.iastore, 1) := by decide +kernel
theorem dX10_swap_80 : decode cX10_swap 80 = .ok (.aload_n 0, 1) := by decide +kernel
theorem dX10_swap_81 : decode cX10_swap 81 = .ok (.getfield 37, 3) := by decide +kernel
theorem dX10_swap_84 : decode cX10_swap 84 = .ok (.bipush 109, 2) := by decide +kernel
theorem dX10_swap_86 : decode cX10_swap 86 = .ok (.iload_n 1, 1) := by decide +kernel
theorem dX10_swap_87 : decode cX10_swap 87 = .ok (.iadd, 1) := by decide +kernel
theorem dX10_swap_88 : decode cX10_swap 88 = .ok (.aload_n 0, 1) := by decide +kernel
theorem dX10_swap_89 : decode cX10_swap 89 = .ok (.getfield 37, 3) := by decide +kernel
theorem dX10_swap_92 : decode cX10_swap 92 = .ok (.bipush 109, 2) := by decide +kernel
theorem dX10_swap_94 : decode cX10_swap 94 = .ok (.iload_n 2, 1) := by decide +kernel
theorem dX10_swap_95 : decode cX10_swap 95 = .ok (.iadd, 1) := by decide +kernel
theorem dX10_swap_96 : decode cX10_swap 96 = .ok (.iaload, 1) := by decide +kernel
theorem dX10_swap_97 : decode cX10_swap 97 = .ok (.iastore, 1) := by decide +kernel
theorem dX10_swap_98 : decode cX10_swap 98 = .ok (.aload_n 0, 1) := by decide +kernel
theorem dX10_swap_99 : decode cX10_swap 99 = .ok (.getfield 37, 3) := by decide +kernel
theorem dX10_swap_102 : decode cX10_swap 102 = .ok (.bipush 105, 2) := by decide +kernel
theorem dX10_swap_104 : decode cX10_swap 104 = .ok (.iload_n 2, 1) := by decide +kernel
theorem dX10_swap_105 : decode cX10_swap 105 = .ok (.iadd, 1) := by decide +kernel
theorem dX10_swap_106 : decode cX10_swap 106 = .ok (.iload_n 3, 1) := by decide +kernel
theorem dX10_swap_107 : decode cX10_swap 107 = .ok (.iastore, 1) := by decide +kernel
theorem dX10_swap_108 : decode cX10_swap 108 = .ok (.aload_n 0, 1) := by decide +kernel
theorem dX10_swap_109 : decode cX10_swap 109 = .ok (.getfield 37, 3) := by decide +kernel
theorem dX10_swap_112 : decode cX10_swap 112 = .ok (.bipush 109, 2) := by decide +kernel
theorem dX10_swap_114 : decode cX10_swap 114 = .ok (.iload_n 2, 1) := by decide +kernel
theorem dX10_swap_115 : decode cX10_swap 115 = .ok (.iadd, 1) := by decide +kernel
theorem dX10_swap_116 : decode cX10_swap 116 = .ok (.iload 4, 2) := by decide +kernel
theorem dX10_swap_118 : decode cX10_swap 118 = .ok (.iastore, 1) := by decide +kernel
theorem dX10_swap_119 : decode cX10_swap 119 = .ok (.iconst 1, 1) := by decide +kernel
theorem dX10_swap_120 : decode cX10_swap 120 = .ok (.ireturn, 1) := by decide +kernel
theorem dX10_slot_0 : decode cX10_slot 0 = .ok (.iload_n 0, 1) := by decide +kernel
theorem dX10_slot_1 : decode cX10_slot 1 = .ok (.bipush 16, 2) := by decide +kernel
theorem dX10_slot_3 : decode cX10_slot 3 = .ok (.imul, 1) := by decide +kernel
theorem dX10_slot_4 : decode cX10_slot 4 = .ok (.iload_n 1, 1) := by decide +kernel
theorem dX10_slot_5 : decode cX10_slot 5 = .ok (.iadd, 1) := by decide +kernel
theorem dX10_slot_6 : decode cX10_slot 6 = .ok (.iconst 2, 1) := by decide +kernel
theorem dX10_slot_7 : decode cX10_slot 7 = .ok (.imul, 1) := by decide +kernel
theorem dX10_slot_8 : decode cX10_slot 8 = .ok (.iload_n 2, 1) := by decide +kernel
theorem dX10_slot_9 : decode cX10_slot 9 = .ok (.iadd, 1) := by decide +kernel
theorem dX10_slot_10 : decode cX10_slot 10 = .ok (.sipush 241, 3) := by decide +kernel
theorem dX10_slot_13 : decode cX10_slot 13 = .ok (.imul, 1) := by decide +kernel
theorem dX10_slot_14 : decode cX10_slot 14 = .ok (.iload_n 3, 1) := by decide +kernel
theorem dX10_slot_15 : decode cX10_slot 15 = .ok (.iadd, 1) := by decide +kernel
theorem dX10_slot_16 : decode cX10_slot 16 = .ok (.bipush 10, 2) := by decide +kernel
theorem dX10_slot_18 : decode cX10_slot 18 = .ok (.isub, 1) := by decide +kernel
theorem dX10_slot_19 : decode cX10_slot 19 = .ok (.ireturn, 1) := by decide +kernel
theorem dX10_chooses_0 : decode cX10_chooses 0 = .ok (.aload_n 0, 1) := by decide +kernel
theorem dX10_chooses_1 : decode cX10_chooses 1 = .ok (.aload_n 0, 1) := by decide +kernel
theorem dX10_chooses_2 : decode cX10_chooses 2 = .ok (.iload_n 3, 1) := by decide +kernel
theorem dX10_chooses_3 : decode cX10_chooses 3 = .ok (.iload_n 1, 1) := by decide +kernel
theorem dX10_chooses_4 : decode cX10_chooses 4 = .ok (.iload_n 1, 1) := by decide +kernel
theorem dX10_chooses_5 : decode cX10_chooses 5 = .ok (.invokevirtual 323, 3) := by decide +kernel
theorem dX10_chooses_8 : decode cX10_chooses 8 = .ok (.putfield 377, 3) := by decide +kernel
theorem dX10_chooses_11 : decode cX10_chooses 11 = .ok (.aload_n 0, 1) := by decide +kernel
theorem dX10_chooses_12 : decode cX10_chooses 12 = .ok (.iload_n 1, 1) := by decide +kernel
theorem dX10_chooses_13 : decode cX10_chooses 13 = .ok (.putfield 380, 3) := by decide +kernel
theorem dX10_chooses_16 : decode cX10_chooses 16 = .ok (.aload_n 0, 1) := by decide +kernel
theorem dX10_chooses_17 : decode cX10_chooses 17 = .ok (.iconst 0, 1) := by decide +kernel
theorem dX10_chooses_18 : decode cX10_chooses 18 = .ok (.putfield 383, 3) := by decide +kernel
theorem dX10_chooses_21 : decode cX10_chooses 21 = .ok (.iload 4, 2) := by decide +kernel
theorem dX10_chooses_23 : decode cX10_chooses 23 = .ok (.ifCond .ne 5, 3) := by decide +kernel
theorem dX10_chooses_26 : decode cX10_chooses 26 = .ok (.iconst 1, 1) := by decide +kernel
theorem dX10_chooses_27 : decode cX10_chooses 27 = .ok (.ireturn, 1) := by decide +kernel
theorem dX10_chooses_28 : decode cX10_chooses 28 = .ok (.iload_n 1, 1) := by decide +kernel
theorem dX10_chooses_29 : decode cX10_chooses 29 = .ok (.iload 4, 2) := by decide +kernel
theorem dX10_chooses_31 : decode cX10_chooses 31 = .ok (.iconst 1, 1) := by decide +kernel
theorem dX10_chooses_32 : decode cX10_chooses 32 = .ok (.isub, 1) := by decide +kernel
theorem dX10_chooses_33 : decode cX10_chooses 33 = .ok (.invokestatic 232, 3) := by decide +kernel
theorem dX10_chooses_36 : decode cX10_chooses 36 = .ok (.ifCond .ne 18, 3) := by decide +kernel
theorem dX10_chooses_39 : decode cX10_chooses 39 = .ok (.aload_n 0, 1) := by decide +kernel
theorem dX10_chooses_40 : decode cX10_chooses 40 = .ok (.aload_n 0, 1) := by decide +kernel
theorem dX10_chooses_41 : decode cX10_chooses 41 = .ok (.getfield 377, 3) := by decide +kernel
theorem dX10_chooses_44 : decode cX10_chooses 44 = .ok (.iload 4, 2) := by decide +kernel
theorem dX10_chooses_46 : decode cX10_chooses 46 = .ok (.iconst 1, 1) := by decide +kernel
theorem dX10_chooses_47 : decode cX10_chooses 47 = .ok (.isub, 1) := by decide +kernel
theorem dX10_chooses_48 : decode cX10_chooses 48 = .ok (.invokevirtual 327, 3) := by decide +kernel
theorem dX10_chooses_51 : decode cX10_chooses 51 = .ok (.ifCond .eq 5, 3) := by decide +kernel
theorem dX10_chooses_54 : decode cX10_chooses 54 = .ok (.iconst 0, 1) := by decide +kernel
theorem dX10_chooses_55 : decode cX10_chooses 55 = .ok (.ireturn, 1) := by decide +kernel
theorem dX10_chooses_56 : decode cX10_chooses 56 = .ok (.aload_n 0, 1) := by decide +kernel
theorem dX10_chooses_57 : decode cX10_chooses 57 = .ok (.aload_n 0, 1) := by decide +kernel
theorem dX10_chooses_58 : decode cX10_chooses 58 = .ok (.getfield 377, 3) := by decide +kernel
theorem dX10_chooses_61 : decode cX10_chooses 61 = .ok (.iload_n 2, 1) := by decide +kernel
theorem dX10_chooses_62 : decode cX10_chooses 62 = .ok (.iconst 1, 1) := by decide +kernel
theorem dX10_chooses_63 : decode cX10_chooses 63 = .ok (.if_icmp .ne 8, 3) := by decide +kernel
theorem dX10_chooses_66 : decode cX10_chooses 66 = .ok (.bipush 6, 2) := by decide +kernel
theorem dX10_chooses_68 : decode cX10_chooses 68 = .ok (.goto 4, 3) := by decide +kernel
theorem dX10_chooses_71 : decode cX10_chooses 71 = .ok (.iconst 2, 1) := by decide +kernel
theorem dX10_chooses_72 : decode cX10_chooses 72 = .ok (.isub, 1) := by decide +kernel
theorem dX10_chooses_73 : decode cX10_chooses 73 = .ok (.invokestatic 311, 3) := by decide +kernel
theorem dX10_chooses_76 : decode cX10_chooses 76 = .ok (.putfield 377, 3) := by decide +kernel
theorem dX10_chooses_79 : decode cX10_chooses 79 = .ok (.aload_n 0, 1) := by decide +kernel
theorem dX10_chooses_80 : decode cX10_chooses 80 = .ok (.iload_n 1, 1) := by decide +kernel
theorem dX10_chooses_81 : decode cX10_chooses 81 = .ok (.iconst 1, 1) := by decide +kernel
theorem dX10_chooses_82 : decode cX10_chooses 82 = .ok (.iload 4, 2) := by decide +kernel
theorem dX10_chooses_84 : decode cX10_chooses 84 = .ok (.iconst 1, 1) := by decide +kernel
theorem dX10_chooses_85 : decode cX10_chooses 85 = .ok (.isub, 1) := by decide +kernel
theorem dX10_chooses_86 : decode cX10_chooses 86 = .ok (.ishl, 1) := by decide +kernel
theorem dX10_chooses_87 : decode cX10_chooses 87 = .ok (.ior, 1) := by decide +kernel
theorem dX10_chooses_88 : decode cX10_chooses 88 = .ok (.putfield 380, 3) := by decide +kernel
theorem dX10_chooses_91 : decode cX10_chooses 91 = .ok (.aload_n 0, 1) := by decide +kernel
theorem dX10_chooses_92 : decode cX10_chooses 92 = .ok (.iconst 1, 1) := by decide +kernel
theorem dX10_chooses_93 : decode cX10_chooses 93 = .ok (.putfield 383, 3) := by decide +kernel
theorem dX10_chooses_96 : decode cX10_chooses 96 = .ok (.iconst 1, 1) := by decide +kernel
theorem dX10_chooses_97 : decode cX10_chooses 97 = .ok (.ireturn, 1) := by decide +kernel
theorem dX10_choices_0 : decode cX10_choices 0 = .ok (.iconst 0, 1) := by decide +kernel
theorem dX10_choices_1 : decode cX10_choices 1 = .ok (.istore_n 1, 1) := by decide +kernel
theorem dX10_choices_2 : decode cX10_choices 2 = .ok (.iload_n 1, 1) := by decide +kernel
theorem dX10_choices_3 : decode cX10_choices 3 = .ok (.sipush 7712, 3) := by decide +kernel
theorem dX10_choices_6 : decode cX10_choices 6 = .ok (.if_icmp .ge 102, 3) := by decide +kernel
theorem dX10_choices_9 : decode cX10_choices 9 = .ok (.iconst 0, 1) := by decide +kernel
theorem dX10_choices_10 : decode cX10_choices 10 = .ok (.istore_n 2, 1) := by decide +kernel
theorem dX10_choices_11 : decode cX10_choices 11 = .ok (.iload_n 2, 1) := by decide +kernel
theorem dX10_choices_12 : decode cX10_choices 12 = .ok (.iconst 5, 1) := by decide +kernel
theorem dX10_choices_13 : decode cX10_choices 13 = .ok (.if_icmp .ge 89, 3) := by decide +kernel
theorem dX10_choices_16 : decode cX10_choices 16 = .ok (.aload_n 0, 1) := by decide +kernel
theorem dX10_choices_17 : decode cX10_choices 17 = .ok (.iload_n 1, 1) := by decide +kernel
theorem dX10_choices_18 : decode cX10_choices 18 = .ok (.sipush 241, 3) := by decide +kernel
theorem dX10_choices_21 : decode cX10_choices 21 = .ok (.idiv, 1) := by decide +kernel
theorem dX10_choices_22 : decode cX10_choices 22 = .ok (.iconst 2, 1) := by decide +kernel
theorem dX10_choices_23 : decode cX10_choices 23 = .ok (.idiv, 1) := by decide +kernel
theorem dX10_choices_24 : decode cX10_choices 24 = .ok (.iload_n 1, 1) := by decide +kernel
theorem dX10_choices_25 : decode cX10_choices 25 = .ok (.sipush 241, 3) := by decide +kernel
theorem dX10_choices_28 : decode cX10_choices 28 = .ok (.idiv, 1) := by decide +kernel
theorem dX10_choices_29 : decode cX10_choices 29 = .ok (.iconst 2, 1) := by decide +kernel
theorem dX10_choices_30 : decode cX10_choices 30 = .ok (.irem, 1) := by decide +kernel
theorem dX10_choices_31 : decode cX10_choices 31 = .ok (.bipush 10, 2) := by decide +kernel
theorem dX10_choices_33 : decode cX10_choices 33 = .ok (.iload_n 1, 1) := by decide +kernel
theorem dX10_choices_34 : decode cX10_choices 34 = .ok (.sipush 241, 3) := by decide +kernel
theorem dX10_choices_37 : decode cX10_choices 37 = .ok (.irem, 1) := by decide +kernel
theorem dX10_choices_38 : decode cX10_choices 38 = .ok (.iadd, 1) := by decide +kernel
theorem dX10_choices_39 : decode cX10_choices 39 = .ok (.iload_n 2, 1) := by decide +kernel
theorem dX10_choices_40 : decode cX10_choices 40 = .ok (.invokevirtual 386, 3) := by decide +kernel
theorem dX10_choices_43 : decode cX10_choices 43 = .ok (.istore_n 3, 1) := by decide +kernel
theorem dX10_choices_44 : decode cX10_choices 44 = .ok (.aload_n 0, 1) := by decide +kernel
theorem dX10_choices_45 : decode cX10_choices 45 = .ok (.getfield 89, 3) := by decide +kernel
theorem dX10_choices_48 : decode cX10_choices 48 = .ok (.iconst 5, 1) := by decide +kernel
theorem dX10_choices_49 : decode cX10_choices 49 = .ok (.iload_n 1, 1) := by decide +kernel
theorem dX10_choices_50 : decode cX10_choices 50 = .ok (.imul, 1) := by decide +kernel
theorem dX10_choices_51 : decode cX10_choices 51 = .ok (.iload_n 2, 1) := by decide +kernel
theorem dX10_choices_52 : decode cX10_choices 52 = .ok (.iadd, 1) := by decide +kernel
theorem dX10_choices_53 : decode cX10_choices 53 = .ok (.iload_n 3, 1) := by decide +kernel
theorem dX10_choices_54 : decode cX10_choices 54 = .ok (.ifCond .eq 22, 3) := by decide +kernel
theorem dX10_choices_57 : decode cX10_choices 57 = .ok (.iconst 0, 1) := by decide +kernel
theorem dX10_choices_58 : decode cX10_choices 58 = .ok (.aload_n 0, 1) := by decide +kernel
theorem dX10_choices_59 : decode cX10_choices 59 = .ok (.getfield 380, 3) := by decide +kernel
theorem dX10_choices_62 : decode cX10_choices 62 = .ok (.aload_n 0, 1) := by decide +kernel
theorem dX10_choices_63 : decode cX10_choices 63 = .ok (.getfield 383, 3) := by decide +kernel
theorem dX10_choices_66 : decode cX10_choices 66 = .ok (.aload_n 0, 1) := by decide +kernel
theorem dX10_choices_67 : decode cX10_choices 67 = .ok (.getfield 377, 3) := by decide +kernel
theorem dX10_choices_70 : decode cX10_choices 70 = .ok (.invokestatic 390, 3) := by decide +kernel
theorem dX10_choices_73 : decode cX10_choices 73 = .ok (.goto 4, 3) := by decide +kernel
theorem dX10_choices_76 : decode cX10_choices 76 = .ok (.iconst (-1), 1) := by decide +kernel
theorem dX10_choices_77 : decode cX10_choices 77 = .ok (.iastore, 1) := by decide +kernel
theorem dX10_choices_78 : decode cX10_choices 78 = .ok (.aload_n 0, 1) := by decide +kernel
theorem dX10_choices_79 : decode cX10_choices 79 = .ok (.getfield 92, 3) := by decide +kernel
theorem dX10_choices_82 : decode cX10_choices 82 = .ok (.iconst 5, 1) := by decide +kernel
theorem dX10_choices_83 : decode cX10_choices 83 = .ok (.iload_n 1, 1) := by decide +kernel
theorem dX10_choices_84 : decode cX10_choices 84 = .ok (.imul, 1) := by decide +kernel
theorem dX10_choices_85 : decode cX10_choices 85 = .ok (.iload_n 2, 1) := by decide +kernel
theorem dX10_choices_86 : decode cX10_choices 86 = .ok (.iadd, 1) := by decide +kernel
theorem dX10_choices_87 : decode cX10_choices 87 = .ok (.sipush 3000, 3) := by decide +kernel
theorem dX10_choices_90 : decode cX10_choices 90 = .ok (.aload_n 0, 1) := by decide +kernel
theorem dX10_choices_91 : decode cX10_choices 91 = .ok (.getfield 377, 3) := by decide +kernel
theorem dX10_choices_94 : decode cX10_choices 94 = .ok (.idiv, 1) := by decide +kernel
theorem dX10_choices_95 : decode cX10_choices 95 = .ok (.iastore, 1) := by decide +kernel
theorem dX10_choices_96 : decode cX10_choices 96 = .ok (.iinc 2 1, 3) := by decide +kernel
theorem dX10_choices_99 : decode cX10_choices 99 = .ok (.goto (-88), 3) := by decide +kernel
theorem dX10_choices_102 : decode cX10_choices 102 = .ok (.iinc 1 1, 3) := by decide +kernel
theorem dX10_choices_105 : decode cX10_choices 105 = .ok (.goto (-103), 3) := by decide +kernel
theorem dX10_choices_108 : decode cX10_choices 108 = .ok (.return_, 1) := by decide +kernel
theorem dX10_timeBy_0 : decode cX10_timeBy 0 = .ok (.aload_n 0, 1) := by decide +kernel
theorem dX10_timeBy_1 : decode cX10_timeBy 1 = .ok (.getfield 89, 3) := by decide +kernel
theorem dX10_timeBy_4 : decode cX10_timeBy 4 = .ok (.iconst 5, 1) := by decide +kernel
theorem dX10_timeBy_5 : decode cX10_timeBy 5 = .ok (.iload_n 2, 1) := by decide +kernel
theorem dX10_timeBy_6 : decode cX10_timeBy 6 = .ok (.imul, 1) := by decide +kernel
theorem dX10_timeBy_7 : decode cX10_timeBy 7 = .ok (.iload_n 3, 1) := by decide +kernel
theorem dX10_timeBy_8 : decode cX10_timeBy 8 = .ok (.iadd, 1) := by decide +kernel
theorem dX10_timeBy_9 : decode cX10_timeBy 9 = .ok (.iaload, 1) := by decide +kernel
theorem dX10_timeBy_10 : decode cX10_timeBy 10 = .ok (.istore 4, 2) := by decide +kernel
theorem dX10_timeBy_12 : decode cX10_timeBy 12 = .ok (.iload 4, 2) := by decide +kernel
theorem dX10_timeBy_14 : decode cX10_timeBy 14 = .ok (.ifCond .ge 9, 3) := by decide +kernel
theorem dX10_timeBy_17 : decode cX10_timeBy 17 = .ok (.ldc_w 394, 3) := by decide +kernel
theorem dX10_timeBy_20 : decode cX10_timeBy 20 = .ok (.goto 29, 3) := by decide +kernel
theorem dX10_timeBy_23 : decode cX10_timeBy 23 = .ok (.aload_n 0, 1) := by decide +kernel
theorem dX10_timeBy_24 : decode cX10_timeBy 24 = .ok (.getfield 92, 3) := by decide +kernel
theorem dX10_timeBy_27 : decode cX10_timeBy 27 = .ok (.iconst 5, 1) := by decide +kernel
theorem dX10_timeBy_28 : decode cX10_timeBy 28 = .ok (.iload_n 2, 1) := by decide +kernel
theorem dX10_timeBy_29 : decode cX10_timeBy 29 = .ok (.imul, 1) := by decide +kernel
theorem dX10_timeBy_30 : decode cX10_timeBy 30 = .ok (.iload_n 3, 1) := by decide +kernel
theorem dX10_timeBy_31 : decode cX10_timeBy 31 = .ok (.iadd, 1) := by decide +kernel
theorem dX10_timeBy_32 : decode cX10_timeBy 32 = .ok (.iaload, 1) := by decide +kernel
theorem dX10_timeBy_33 : decode cX10_timeBy 33 = .ok (.aload_n 0, 1) := by decide +kernel
theorem dX10_timeBy_34 : decode cX10_timeBy 34 = .ok (.getfield 76, 3) := by decide +kernel
theorem dX10_timeBy_37 : decode cX10_timeBy 37 = .ok (.sipush 7712, 3) := by decide +kernel
theorem dX10_timeBy_40 : decode cX10_timeBy 40 = .ok (.iload_n 1, 1) := by decide +kernel
theorem dX10_timeBy_41 : decode cX10_timeBy 41 = .ok (.iconst 1, 1) := by decide +kernel
theorem dX10_timeBy_42 : decode cX10_timeBy 42 = .ok (.iadd, 1) := by decide +kernel
theorem dX10_timeBy_43 : decode cX10_timeBy 43 = .ok (.imul, 1) := by decide +kernel
theorem dX10_timeBy_44 : decode cX10_timeBy 44 = .ok (.iload 4, 2) := by decide +kernel
theorem dX10_timeBy_46 : decode cX10_timeBy 46 = .ok (.iadd, 1) := by decide +kernel
theorem dX10_timeBy_47 : decode cX10_timeBy 47 = .ok (.iaload, 1) := by decide +kernel
theorem dX10_timeBy_48 : decode cX10_timeBy 48 = .ok (.iadd, 1) := by decide +kernel
theorem dX10_timeBy_49 : decode cX10_timeBy 49 = .ok (.ireturn, 1) := by decide +kernel
theorem dX10_bestOf_0 : decode cX10_bestOf 0 = .ok (.aload_n 0, 1) := by decide +kernel
theorem dX10_bestOf_1 : decode cX10_bestOf 1 = .ok (.getfield 37, 3) := by decide +kernel
theorem dX10_bestOf_4 : decode cX10_bestOf 4 = .ok (.iconst 1, 1) := by decide +kernel
theorem dX10_bestOf_5 : decode cX10_bestOf 5 = .ok (.iaload, 1) := by decide +kernel
theorem dX10_bestOf_6 : decode cX10_bestOf 6 = .ok (.aload_n 0, 1) := by decide +kernel
theorem dX10_bestOf_7 : decode cX10_bestOf 7 = .ok (.getfield 37, 3) := by decide +kernel
theorem dX10_bestOf_10 : decode cX10_bestOf 10 = .ok (.bipush 113, 2) := by decide +kernel
theorem dX10_bestOf_12 : decode cX10_bestOf 12 = .ok (.iaload, 1) := by decide +kernel
theorem dX10_bestOf_13 : decode cX10_bestOf 13 = .ok (.iadd, 1) := by decide +kernel
theorem dX10_bestOf_14 : decode cX10_bestOf 14 = .ok (.aload_n 0, 1) := by decide +kernel
theorem dX10_bestOf_15 : decode cX10_bestOf 15 = .ok (.bipush 15, 2) := by decide +kernel
theorem dX10_bestOf_17 : decode cX10_bestOf 17 = .ok (.invokevirtual 308, 3) := by decide +kernel
theorem dX10_bestOf_20 : decode cX10_bestOf 20 = .ok (.iadd, 1) := by decide +kernel
theorem dX10_bestOf_21 : decode cX10_bestOf 21 = .ok (.istore_n 1, 1) := by decide +kernel
theorem dX10_bestOf_22 : decode cX10_bestOf 22 = .ok (.iconst 0, 1) := by decide +kernel
theorem dX10_bestOf_23 : decode cX10_bestOf 23 = .ok (.istore_n 2, 1) := by decide +kernel
theorem dX10_bestOf_24 : decode cX10_bestOf 24 = .ok (.iload_n 2, 1) := by decide +kernel
theorem dX10_bestOf_25 : decode cX10_bestOf 25 = .ok (.bipush 16, 2) := by decide +kernel
theorem dX10_bestOf_27 : decode cX10_bestOf 27 = .ok (.if_icmp .ge 90, 3) := by decide +kernel
theorem dX10_bestOf_30 : decode cX10_bestOf 30 = .ok (.iconst 0, 1) := by decide +kernel
theorem dX10_bestOf_31 : decode cX10_bestOf 31 = .ok (.istore_n 3, 1) := by decide +kernel
theorem dX10_bestOf_32 : decode cX10_bestOf 32 = .ok (.iload_n 3, 1) := by decide +kernel
theorem dX10_bestOf_33 : decode cX10_bestOf 33 = .ok (.iconst 2, 1) := by decide +kernel
theorem dX10_bestOf_34 : decode cX10_bestOf 34 = .ok (.if_icmp .ge 77, 3) := by decide +kernel
theorem dX10_bestOf_37 : decode cX10_bestOf 37 = .ok (.bipush 10, 2) := by decide +kernel
theorem dX10_bestOf_39 : decode cX10_bestOf 39 = .ok (.istore 4, 2) := by decide +kernel
theorem dX10_bestOf_41 : decode cX10_bestOf 41 = .ok (.iload 4, 2) := by decide +kernel
theorem dX10_bestOf_43 : decode cX10_bestOf 43 = .ok (.sipush 250, 3) := by decide +kernel
theorem dX10_bestOf_46 : decode cX10_bestOf 46 = .ok (.if_icmp .gt 59, 3) := by decide +kernel
theorem dX10_bestOf_49 : decode cX10_bestOf 49 = .ok (.iload_n 2, 1) := by decide +kernel
theorem dX10_bestOf_50 : decode cX10_bestOf 50 = .ok (.bipush 15, 2) := by decide +kernel
theorem dX10_bestOf_52 : decode cX10_bestOf 52 = .ok (.if_icmp .ne 13, 3) := by decide +kernel
theorem dX10_bestOf_55 : decode cX10_bestOf 55 = .ok (.aload_n 0, 1) := by decide +kernel
theorem dX10_bestOf_56 : decode cX10_bestOf 56 = .ok (.iload 4, 2) := by decide +kernel
theorem dX10_bestOf_58 : decode cX10_bestOf 58 = .ok (.iload_n 1, 1) := by decide +kernel
theorem dX10_bestOf_59 : decode cX10_bestOf 59 = .ok (.invokevirtual 365, 3) := by decide +kernel
theorem dX10_bestOf_62 : decode cX10_bestOf 62 = .ok (.goto 4, 3) := by decide +kernel
theorem dX10_bestOf_65 : decode cX10_bestOf 65 = .ok (.iconst (-1), 1) := by decide +kernel
theorem dX10_bestOf_66 : decode cX10_bestOf 66 = .ok (.istore 5, 2) := by decide +kernel
theorem dX10_bestOf_68 : decode cX10_bestOf 68 = .ok (.aload_n 0, 1) := by decide +kernel
theorem dX10_bestOf_69 : decode cX10_bestOf 69 = .ok (.getfield 76, 3) := by decide +kernel
theorem dX10_bestOf_72 : decode cX10_bestOf 72 = .ok (.aload_n 0, 1) := by decide +kernel
theorem dX10_bestOf_73 : decode cX10_bestOf 73 = .ok (.getfield 37, 3) := by decide +kernel
theorem dX10_bestOf_76 : decode cX10_bestOf 76 = .ok (.iconst 0, 1) := by decide +kernel
theorem dX10_bestOf_77 : decode cX10_bestOf 77 = .ok (.iaload, 1) := by decide +kernel
theorem dX10_bestOf_78 : decode cX10_bestOf 78 = .ok (.iload_n 2, 1) := by decide +kernel
theorem dX10_bestOf_79 : decode cX10_bestOf 79 = .ok (.iload_n 3, 1) := by decide +kernel
theorem dX10_bestOf_80 : decode cX10_bestOf 80 = .ok (.iload 4, 2) := by decide +kernel
theorem dX10_bestOf_82 : decode cX10_bestOf 82 = .ok (.invokestatic 390, 3) := by decide +kernel
theorem dX10_bestOf_85 : decode cX10_bestOf 85 = .ok (.iload 5, 2) := by decide +kernel
theorem dX10_bestOf_87 : decode cX10_bestOf 87 = .ok (.ifCond .ge 9, 3) := by decide +kernel
theorem dX10_bestOf_90 : decode cX10_bestOf 90 = .ok (.ldc_w 394, 3) := by decide +kernel
theorem dX10_bestOf_93 : decode cX10_bestOf 93 = .ok (.goto 5, 3) := by decide +kernel
theorem dX10_bestOf_96 : decode cX10_bestOf 96 = .ok (.iload 5, 2) := by decide +kernel
theorem dX10_bestOf_98 : decode cX10_bestOf 98 = .ok (.iastore, 1) := by decide +kernel
theorem dX10_bestOf_99 : decode cX10_bestOf 99 = .ok (.iinc 4 1, 3) := by decide +kernel
theorem dX10_bestOf_102 : decode cX10_bestOf 102 = .ok (.goto (-61), 3) := by decide +kernel
theorem dX10_bestOf_105 : decode cX10_bestOf 105 = .ok (.iinc 3 1, 3) := by decide +kernel
theorem dX10_bestOf_108 : decode cX10_bestOf 108 = .ok (.goto (-76), 3) := by decide +kernel
theorem dX10_bestOf_111 : decode cX10_bestOf 111 = .ok (.iinc 2 1, 3) := by decide +kernel
theorem dX10_bestOf_114 : decode cX10_bestOf 114 = .ok (.goto (-90), 3) := by decide +kernel
theorem dX10_bestOf_117 : decode cX10_bestOf 117 = .ok (.aload_n 0, 1) := by decide +kernel
theorem dX10_bestOf_118 : decode cX10_bestOf 118 = .ok (.invokevirtual 395, 3) := by decide +kernel
theorem dX10_bestOf_121 : decode cX10_bestOf 121 = .ok (.aload_n 0, 1) := by decide +kernel
theorem dX10_bestOf_122 : decode cX10_bestOf 122 = .ok (.getfield 37, 3) := by decide +kernel
theorem dX10_bestOf_125 : decode cX10_bestOf 125 = .ok (.iconst 0, 1) := by decide +kernel
theorem dX10_bestOf_126 : decode cX10_bestOf 126 = .ok (.iaload, 1) := by decide +kernel
theorem dX10_bestOf_127 : decode cX10_bestOf 127 = .ok (.iconst 1, 1) := by decide +kernel
theorem dX10_bestOf_128 : decode cX10_bestOf 128 = .ok (.isub, 1) := by decide +kernel
theorem dX10_bestOf_129 : decode cX10_bestOf 129 = .ok (.istore_n 2, 1) := by decide +kernel
theorem dX10_bestOf_130 : decode cX10_bestOf 130 = .ok (.iload_n 2, 1) := by decide +kernel
theorem dX10_bestOf_131 : decode cX10_bestOf 131 = .ok (.ifCond .lt 73, 3) := by decide +kernel
theorem dX10_bestOf_134 : decode cX10_bestOf 134 = .ok (.iconst 0, 1) := by decide +kernel
theorem dX10_bestOf_135 : decode cX10_bestOf 135 = .ok (.istore_n 3, 1) := by decide +kernel
theorem dX10_bestOf_136 : decode cX10_bestOf 136 = .ok (.iload_n 3, 1) := by decide +kernel
theorem dX10_bestOf_137 : decode cX10_bestOf 137 = .ok (.sipush 7712, 3) := by decide +kernel
theorem dX10_bestOf_140 : decode cX10_bestOf 140 = .ok (.if_icmp .ge 58, 3) := by decide +kernel
theorem dX10_bestOf_143 : decode cX10_bestOf 143 = .ok (.ldc_w 394, 3) := by decide +kernel
theorem dX10_bestOf_146 : decode cX10_bestOf 146 = .ok (.istore 4, 2) := by decide +kernel
theorem dX10_bestOf_148 : decode cX10_bestOf 148 = .ok (.iconst 0, 1) := by decide +kernel
theorem dX10_bestOf_149 : decode cX10_bestOf 149 = .ok (.istore 5, 2) := by decide +kernel
theorem dX10_bestOf_151 : decode cX10_bestOf 151 = .ok (.iload 5, 2) := by decide +kernel
theorem dX10_bestOf_153 : decode cX10_bestOf 153 = .ok (.iconst 5, 1) := by decide +kernel
theorem dX10_bestOf_154 : decode cX10_bestOf 154 = .ok (.if_icmp .ge 24, 3) := by decide +kernel
theorem dX10_bestOf_157 : decode cX10_bestOf 157 = .ok (.iload 4, 2) := by decide +kernel
theorem dX10_bestOf_159 : decode cX10_bestOf 159 = .ok (.aload_n 0, 1) := by decide +kernel
theorem dX10_bestOf_160 : decode cX10_bestOf 160 = .ok (.iload_n 2, 1) := by decide +kernel
theorem dX10_bestOf_161 : decode cX10_bestOf 161 = .ok (.iload_n 3, 1) := by decide +kernel
theorem dX10_bestOf_162 : decode cX10_bestOf 162 = .ok (.iload 5, 2) := by decide +kernel
theorem dX10_bestOf_164 : decode cX10_bestOf 164 = .ok (.invokevirtual 398, 3) := by decide +kernel
theorem dX10_bestOf_167 : decode cX10_bestOf 167 = .ok (.invokestatic 27, 3) := by decide +kernel
theorem dX10_bestOf_170 : decode cX10_bestOf 170 = .ok (.istore 4, 2) := by decide +kernel
theorem dX10_bestOf_172 : decode cX10_bestOf 172 = .ok (.iinc 5 1, 3) := by decide +kernel
theorem dX10_bestOf_175 : decode cX10_bestOf 175 = .ok (.goto (-24), 3) := by decide +kernel
theorem dX10_bestOf_178 : decode cX10_bestOf 178 = .ok (.aload_n 0, 1) := by decide +kernel
theorem dX10_bestOf_179 : decode cX10_bestOf 179 = .ok (.getfield 76, 3) := by decide +kernel
theorem dX10_bestOf_182 : decode cX10_bestOf 182 = .ok (.sipush 7712, 3) := by decide +kernel
theorem dX10_bestOf_185 : decode cX10_bestOf 185 = .ok (.iload_n 2, 1) := by decide +kernel
theorem dX10_bestOf_186 : decode cX10_bestOf 186 = .ok (.imul, 1) := by decide +kernel
theorem dX10_bestOf_187 : decode cX10_bestOf 187 = .ok (.iload_n 3, 1) := by decide +kernel
theorem dX10_bestOf_188 : decode cX10_bestOf 188 = .ok (.iadd, 1) := by decide +kernel
theorem dX10_bestOf_189 : decode cX10_bestOf 189 = .ok (.iload 4, 2) := by decide +kernel
theorem dX10_bestOf_191 : decode cX10_bestOf 191 = .ok (.iastore, 1) := by decide +kernel
theorem dX10_bestOf_192 : decode cX10_bestOf 192 = .ok (.iinc 3 1, 3) := by decide +kernel
theorem dX10_bestOf_195 : decode cX10_bestOf 195 = .ok (.goto (-59), 3) := by decide +kernel
theorem dX10_bestOf_198 : decode cX10_bestOf 198 = .ok (.iinc 2 (-1), 3) := by decide +kernel
theorem dX10_bestOf_201 : decode cX10_bestOf 201 = .ok (.goto (-71), 3) := by decide +kernel
theorem dX10_bestOf_204 : decode cX10_bestOf 204 = .ok (.aload_n 0, 1) := by decide +kernel
theorem dX10_bestOf_205 : decode cX10_bestOf 205 = .ok (.getfield 76, 3) := by decide +kernel
theorem dX10_bestOf_208 : decode cX10_bestOf 208 = .ok (.iconst 0, 1) := by decide +kernel
theorem dX10_bestOf_209 : decode cX10_bestOf 209 = .ok (.iconst 0, 1) := by decide +kernel
theorem dX10_bestOf_210 : decode cX10_bestOf 210 = .ok (.iconst 0, 1) := by decide +kernel
theorem dX10_bestOf_211 : decode cX10_bestOf 211 = .ok (.bipush 30, 2) := by decide +kernel
theorem dX10_bestOf_213 : decode cX10_bestOf 213 = .ok (.invokestatic 390, 3) := by decide +kernel
theorem dX10_bestOf_216 : decode cX10_bestOf 216 = .ok (.iaload, 1) := by decide +kernel
theorem dX10_bestOf_217 : decode cX10_bestOf 217 = .ok (.ireturn, 1) := by decide +kernel
theorem dX10_best_0 : decode cX10_best 0 = .ok (.aload_n 0, 1) := by decide +kernel
theorem dX10_best_1 : decode cX10_best 1 = .ok (.iconst 0, 1) := by decide +kernel
theorem dX10_best_2 : decode cX10_best 2 = .ok (.putfield 1, 3) := by decide +kernel
theorem dX10_best_5 : decode cX10_best 5 = .ok (.aload_n 0, 1) := by decide +kernel
theorem dX10_best_6 : decode cX10_best 6 = .ok (.invokevirtual 281, 3) := by decide +kernel
theorem dX10_best_9 : decode cX10_best 9 = .ok (.ifCond .ne 5, 3) := by decide +kernel
theorem dX10_best_12 : decode cX10_best 12 = .ok (.iconst (-1), 1) := by decide +kernel
theorem dX10_best_13 : decode cX10_best 13 = .ok (.ireturn, 1) := by decide +kernel
theorem dX10_best_14 : decode cX10_best 14 = .ok (.aload_n 0, 1) := by decide +kernel
theorem dX10_best_15 : decode cX10_best 15 = .ok (.invokevirtual 401, 3) := by decide +kernel
theorem dX10_best_18 : decode cX10_best 18 = .ok (.istore_n 1, 1) := by decide +kernel
theorem dX10_best_19 : decode cX10_best 19 = .ok (.iload_n 1, 1) := by decide +kernel
theorem dX10_best_20 : decode cX10_best 20 = .ok (.ldc_w 394, 3) := by decide +kernel
theorem dX10_best_23 : decode cX10_best 23 = .ok (.if_icmp .lt 5, 3) := by decide +kernel
theorem dX10_best_26 : decode cX10_best 26 = .ok (.iconst (-1), 1) := by decide +kernel
theorem dX10_best_27 : decode cX10_best 27 = .ok (.ireturn, 1) := by decide +kernel
theorem dX10_best_28 : decode cX10_best 28 = .ok (.iconst 0, 1) := by decide +kernel
theorem dX10_best_29 : decode cX10_best 29 = .ok (.iconst 0, 1) := by decide +kernel
theorem dX10_best_30 : decode cX10_best 30 = .ok (.iconst 0, 1) := by decide +kernel
theorem dX10_best_31 : decode cX10_best 31 = .ok (.bipush 30, 2) := by decide +kernel
theorem dX10_best_33 : decode cX10_best 33 = .ok (.invokestatic 390, 3) := by decide +kernel
theorem dX10_best_36 : decode cX10_best 36 = .ok (.istore_n 2, 1) := by decide +kernel
theorem dX10_best_37 : decode cX10_best 37 = .ok (.iconst 0, 1) := by decide +kernel
theorem dX10_best_38 : decode cX10_best 38 = .ok (.istore_n 3, 1) := by decide +kernel
theorem dX10_best_39 : decode cX10_best 39 = .ok (.iload_n 3, 1) := by decide +kernel
theorem dX10_best_40 : decode cX10_best 40 = .ok (.aload_n 0, 1) := by decide +kernel
theorem dX10_best_41 : decode cX10_best 41 = .ok (.getfield 37, 3) := by decide +kernel
theorem dX10_best_44 : decode cX10_best 44 = .ok (.iconst 0, 1) := by decide +kernel
theorem dX10_best_45 : decode cX10_best 45 = .ok (.iaload, 1) := by decide +kernel
theorem dX10_best_46 : decode cX10_best 46 = .ok (.if_icmp .ge 68, 3) := by decide +kernel
theorem dX10_best_49 : decode cX10_best 49 = .ok (.iconst 0, 1) := by decide +kernel
theorem dX10_best_50 : decode cX10_best 50 = .ok (.istore 4, 2) := by decide +kernel
theorem dX10_best_52 : decode cX10_best 52 = .ok (.aload_n 0, 1) := by decide +kernel
theorem dX10_best_53 : decode cX10_best 53 = .ok (.iload_n 3, 1) := by decide +kernel
theorem dX10_best_54 : decode cX10_best 54 = .ok (.iload_n 2, 1) := by decide +kernel
theorem dX10_best_55 : decode cX10_best 55 = .ok (.iload 4, 2) := by decide +kernel
theorem dX10_best_57 : decode cX10_best 57 = .ok (.invokevirtual 398, 3) := by decide +kernel
theorem dX10_best_60 : decode cX10_best 60 = .ok (.aload_n 0, 1) := by decide +kernel
theorem dX10_best_61 : decode cX10_best 61 = .ok (.getfield 76, 3) := by decide +kernel
theorem dX10_best_64 : decode cX10_best 64 = .ok (.sipush 7712, 3) := by decide +kernel
theorem dX10_best_67 : decode cX10_best 67 = .ok (.iload_n 3, 1) := by decide +kernel
theorem dX10_best_68 : decode cX10_best 68 = .ok (.imul, 1) := by decide +kernel
theorem dX10_best_69 : decode cX10_best 69 = .ok (.iload_n 2, 1) := by decide +kernel
theorem dX10_best_70 : decode cX10_best 70 = .ok (.iadd, 1) := by decide +kernel
theorem dX10_best_71 : decode cX10_best 71 = .ok (.iaload, 1) := by decide +kernel
theorem dX10_best_72 : decode cX10_best 72 = .ok (.if_icmp .eq 9, 3) := by decide +kernel
theorem dX10_best_75 : decode cX10_best 75 = .ok (.iinc 4 1, 3) := by decide +kernel
theorem dX10_best_78 : decode cX10_best 78 = .ok (.goto (-26), 3) := by decide +kernel
theorem dX10_best_81 : decode cX10_best 81 = .ok (.iload 4, 2) := by decide +kernel
theorem dX10_best_83 : decode cX10_best 83 = .ok (.ifCond .le 13, 3) := by decide +kernel
theorem dX10_best_86 : decode cX10_best 86 = .ok (.aload_n 0, 1) := by decide +kernel
theorem dX10_best_87 : decode cX10_best 87 = .ok (.getfield 79, 3) := by decide +kernel
theorem dX10_best_90 : decode cX10_best 90 = .ok (.iload 4, 2) := by decide +kernel
theorem dX10_best_92 : decode cX10_best 92 = .ok (.iconst 1, 1) := by decide +kernel
theorem dX10_best_93 : decode cX10_best 93 = .ok (.isub, 1) := by decide +kernel
theorem dX10_best_94 : decode cX10_best 94 = .ok (.iload_n 3, 1) := by decide +kernel
theorem dX10_best_95 : decode cX10_best 95 = .ok (.iastore, 1) := by decide +kernel
theorem dX10_best_96 : decode cX10_best 96 = .ok (.aload_n 0, 1) := by decide +kernel
theorem dX10_best_97 : decode cX10_best 97 = .ok (.getfield 89, 3) := by decide +kernel
theorem dX10_best_100 : decode cX10_best 100 = .ok (.iconst 5, 1) := by decide +kernel
theorem dX10_best_101 : decode cX10_best 101 = .ok (.iload_n 2, 1) := by decide +kernel
theorem dX10_best_102 : decode cX10_best 102 = .ok (.imul, 1) := by decide +kernel
theorem dX10_best_103 : decode cX10_best 103 = .ok (.iload 4, 2) := by decide +kernel
theorem dX10_best_105 : decode cX10_best 105 = .ok (.iadd, 1) := by decide +kernel
theorem dX10_best_106 : decode cX10_best 106 = .ok (.iaload, 1) := by decide +kernel
theorem dX10_best_107 : decode cX10_best 107 = .ok (.istore_n 2, 1) := by decide +kernel
theorem dX10_best_108 : decode cX10_best 108 = .ok (.iinc 3 1, 3) := by decide +kernel
theorem dX10_best_111 : decode cX10_best 111 = .ok (.goto (-72), 3) := by decide +kernel
theorem dX10_best_114 : decode cX10_best 114 = .ok (.iconst 0, 1) := by decide +kernel
theorem dX10_best_115 : decode cX10_best 115 = .ok (.istore_n 3, 1) := by decide +kernel
theorem dX10_best_116 : decode cX10_best 116 = .ok (.iload_n 3, 1) := by decide +kernel
theorem dX10_best_117 : decode cX10_best 117 = .ok (.iconst 4, 1) := by decide +kernel
theorem dX10_best_118 : decode cX10_best 118 = .ok (.if_icmp .ge 24, 3) := by decide +kernel
theorem dX10_best_121 : decode cX10_best 121 = .ok (.aload_n 0, 1) := by decide +kernel
theorem dX10_best_122 : decode cX10_best 122 = .ok (.getfield 82, 3) := by decide +kernel
theorem dX10_best_125 : decode cX10_best 125 = .ok (.iload_n 3, 1) := by decide +kernel
theorem dX10_best_126 : decode cX10_best 126 = .ok (.aload_n 0, 1) := by decide +kernel
theorem dX10_best_127 : decode cX10_best 127 = .ok (.getfield 37, 3) := by decide +kernel
theorem dX10_best_130 : decode cX10_best 130 = .ok (.bipush 105, 2) := by decide +kernel
theorem dX10_best_132 : decode cX10_best 132 = .ok (.iload_n 3, 1) := by decide +kernel
theorem dX10_best_133 : decode cX10_best 133 = .ok (.iadd, 1) := by decide +kernel
theorem dX10_best_134 : decode cX10_best 134 = .ok (.iaload, 1) := by decide +kernel
theorem dX10_best_135 : decode cX10_best 135 = .ok (.iastore, 1) := by decide +kernel
theorem dX10_best_136 : decode cX10_best 136 = .ok (.iinc 3 1, 3) := by decide +kernel
theorem dX10_best_139 : decode cX10_best 139 = .ok (.goto (-23), 3) := by decide +kernel
theorem dX10_best_142 : decode cX10_best 142 = .ok (.aload_n 0, 1) := by decide +kernel
theorem dX10_best_143 : decode cX10_best 143 = .ok (.aload_n 0, 1) := by decide +kernel
theorem dX10_best_144 : decode cX10_best 144 = .ok (.getfield 37, 3) := by decide +kernel
theorem dX10_best_147 : decode cX10_best 147 = .ok (.sipush 334, 3) := by decide +kernel
theorem dX10_best_150 : decode cX10_best 150 = .ok (.iaload, 1) := by decide +kernel
theorem dX10_best_151 : decode cX10_best 151 = .ok (.putfield 85, 3) := by decide +kernel
theorem dX10_best_154 : decode cX10_best 154 = .ok (.aload_n 0, 1) := by decide +kernel
theorem dX10_best_155 : decode cX10_best 155 = .ok (.iconst 1, 1) := by decide +kernel
theorem dX10_best_156 : decode cX10_best 156 = .ok (.putfield 404, 3) := by decide +kernel
theorem dX10_best_159 : decode cX10_best 159 = .ok (.iload_n 1, 1) := by decide +kernel
theorem dX10_best_160 : decode cX10_best 160 = .ok (.ireturn, 1) := by decide +kernel
theorem dX10_when_0 : decode cX10_when 0 = .ok (.aload_n 0, 1) := by decide +kernel
theorem dX10_when_1 : decode cX10_when 1 = .ok (.iconst 0, 1) := by decide +kernel
theorem dX10_when_2 : decode cX10_when 2 = .ok (.putfield 1, 3) := by decide +kernel
theorem dX10_when_5 : decode cX10_when 5 = .ok (.aload_n 0, 1) := by decide +kernel
theorem dX10_when_6 : decode cX10_when 6 = .ok (.getfield 404, 3) := by decide +kernel
theorem dX10_when_9 : decode cX10_when 9 = .ok (.ifCond .eq 21, 3) := by decide +kernel
theorem dX10_when_12 : decode cX10_when 12 = .ok (.iload_n 1, 1) := by decide +kernel
theorem dX10_when_13 : decode cX10_when 13 = .ok (.iconst 0, 1) := by decide +kernel
theorem dX10_when_14 : decode cX10_when 14 = .ok (.iconst 3, 1) := by decide +kernel
theorem dX10_when_15 : decode cX10_when 15 = .ok (.invokestatic 211, 3) := by decide +kernel
theorem dX10_when_18 : decode cX10_when 18 = .ok (.ifCond .eq 12, 3) := by decide +kernel
theorem dX10_when_21 : decode cX10_when 21 = .ok (.aload_n 0, 1) := by decide +kernel
theorem dX10_when_22 : decode cX10_when 22 = .ok (.getfield 79, 3) := by decide +kernel
theorem dX10_when_25 : decode cX10_when 25 = .ok (.iload_n 1, 1) := by decide +kernel
theorem dX10_when_26 : decode cX10_when 26 = .ok (.iaload, 1) := by decide +kernel
theorem dX10_when_27 : decode cX10_when 27 = .ok (.goto 4, 3) := by decide +kernel
theorem dX10_when_30 : decode cX10_when 30 = .ok (.iconst (-1), 1) := by decide +kernel
theorem dX10_when_31 : decode cX10_when 31 = .ok (.ireturn, 1) := by decide +kernel
theorem dX10_place_0 : decode cX10_place 0 = .ok (.iload_n 0, 1) := by decide +kernel
theorem dX10_place_1 : decode cX10_place 1 = .ok (.bipush 10, 2) := by decide +kernel
theorem dX10_place_3 : decode cX10_place 3 = .ok (.imul, 1) := by decide +kernel
theorem dX10_place_4 : decode cX10_place 4 = .ok (.iload_n 1, 1) := by decide +kernel
theorem dX10_place_5 : decode cX10_place 5 = .ok (.iadd, 1) := by decide +kernel
theorem dX10_place_6 : decode cX10_place 6 = .ok (.sipush 241, 3) := by decide +kernel
theorem dX10_place_9 : decode cX10_place 9 = .ok (.imul, 1) := by decide +kernel
theorem dX10_place_10 : decode cX10_place 10 = .ok (.iload_n 2, 1) := by decide +kernel
theorem dX10_place_11 : decode cX10_place 11 = .ok (.iadd, 1) := by decide +kernel
theorem dX10_place_12 : decode cX10_place 12 = .ok (.bipush 10, 2) := by decide +kernel
theorem dX10_place_14 : decode cX10_place 14 = .ok (.isub, 1) := by decide +kernel
theorem dX10_place_15 : decode cX10_place 15 = .ok (.ireturn, 1) := by decide +kernel
theorem dX10_downBy_0 : decode cX10_downBy 0 = .ok (.aload_n 0, 1) := by decide +kernel
theorem dX10_downBy_1 : decode cX10_downBy 1 = .ok (.iload_n 1, 1) := by decide +kernel
theorem dX10_downBy_2 : decode cX10_downBy 2 = .ok (.iload_n 3, 1) := by decide +kernel
theorem dX10_downBy_3 : decode cX10_downBy 3 = .ok (.iload 4, 2) := by decide +kernel
theorem dX10_downBy_5 : decode cX10_downBy 5 = .ok (.iload_n 2, 1) := by decide +kernel
theorem dX10_downBy_6 : decode cX10_downBy 6 = .ok (.iload 5, 2) := by decide +kernel
theorem dX10_downBy_8 : decode cX10_downBy 8 = .ok (.invokevirtual 355, 3) := by decide +kernel
theorem dX10_downBy_11 : decode cX10_downBy 11 = .ok (.istore 6, 2) := by decide +kernel
theorem dX10_downBy_13 : decode cX10_downBy 13 = .ok (.aload_n 0, 1) := by decide +kernel
theorem dX10_downBy_14 : decode cX10_downBy 14 = .ok (.iload_n 1, 1) := by decide +kernel
theorem dX10_downBy_15 : decode cX10_downBy 15 = .ok (.iload 6, 2) := by decide +kernel
theorem dX10_downBy_17 : decode cX10_downBy 17 = .ok (.iload 5, 2) := by decide +kernel
theorem dX10_downBy_19 : decode cX10_downBy 19 = .ok (.invokevirtual 359, 3) := by decide +kernel
theorem dX10_downBy_22 : decode cX10_downBy 22 = .ok (.ifCond .eq 9, 3) := by decide +kernel
theorem dX10_downBy_25 : decode cX10_downBy 25 = .ok (.ldc_w 394, 3) := by decide +kernel
theorem dX10_downBy_28 : decode cX10_downBy 28 = .ok (.goto 35, 3) := by decide +kernel
theorem dX10_downBy_31 : decode cX10_downBy 31 = .ok (.aload_n 0, 1) := by decide +kernel
theorem dX10_downBy_32 : decode cX10_downBy 32 = .ok (.getfield 37, 3) := by decide +kernel
theorem dX10_downBy_35 : decode cX10_downBy 35 = .ok (.bipush 44, 2) := by decide +kernel
theorem dX10_downBy_37 : decode cX10_downBy 37 = .ok (.iload_n 1, 1) := by decide +kernel
theorem dX10_downBy_38 : decode cX10_downBy 38 = .ok (.iadd, 1) := by decide +kernel
theorem dX10_downBy_39 : decode cX10_downBy 39 = .ok (.iaload, 1) := by decide +kernel
theorem dX10_downBy_40 : decode cX10_downBy 40 = .ok (.sipush 3000, 3) := by decide +kernel
theorem dX10_downBy_43 : decode cX10_downBy 43 = .ok (.imul, 1) := by decide +kernel
theorem dX10_downBy_44 : decode cX10_downBy 44 = .ok (.iload 6, 2) := by decide +kernel
theorem dX10_downBy_46 : decode cX10_downBy 46 = .ok (.idiv, 1) := by decide +kernel
theorem dX10_downBy_47 : decode cX10_downBy 47 = .ok (.aload_n 0, 1) := by decide +kernel
theorem dX10_downBy_48 : decode cX10_downBy 48 = .ok (.getfield 95, 3) := by decide +kernel
theorem dX10_downBy_51 : decode cX10_downBy 51 = .ok (.iload_n 1, 1) := by decide +kernel
theorem dX10_downBy_52 : decode cX10_downBy 52 = .ok (.iconst 1, 1) := by decide +kernel
theorem dX10_downBy_53 : decode cX10_downBy 53 = .ok (.iadd, 1) := by decide +kernel
theorem dX10_downBy_54 : decode cX10_downBy 54 = .ok (.iload 5, 2) := by decide +kernel
theorem dX10_downBy_56 : decode cX10_downBy 56 = .ok (.iload 6, 2) := by decide +kernel
theorem dX10_downBy_58 : decode cX10_downBy 58 = .ok (.invokestatic 407, 3) := by decide +kernel
theorem dX10_downBy_61 : decode cX10_downBy 61 = .ok (.iaload, 1) := by decide +kernel
theorem dX10_downBy_62 : decode cX10_downBy 62 = .ok (.iadd, 1) := by decide +kernel
theorem dX10_downBy_63 : decode cX10_downBy 63 = .ok (.ireturn, 1) := by decide +kernel
theorem dX10_line_0 : decode cX10_line 0 = .ok (.aload_n 0, 1) := by decide +kernel
theorem dX10_line_1 : decode cX10_line 1 = .ok (.iconst 0, 1) := by decide +kernel
theorem dX10_line_2 : decode cX10_line 2 = .ok (.putfield 1, 3) := by decide +kernel
theorem dX10_line_5 : decode cX10_line 5 = .ok (.aload_n 0, 1) := by decide +kernel
theorem dX10_line_6 : decode cX10_line 6 = .ok (.invokevirtual 281, 3) := by decide +kernel
theorem dX10_line_9 : decode cX10_line 9 = .ok (.ifCond .ne 5, 3) := by decide +kernel
theorem dX10_line_12 : decode cX10_line 12 = .ok (.iconst (-1), 1) := by decide +kernel
theorem dX10_line_13 : decode cX10_line 13 = .ok (.ireturn, 1) := by decide +kernel
theorem dX10_line_14 : decode cX10_line 14 = .ok (.aload_n 0, 1) := by decide +kernel
theorem dX10_line_15 : decode cX10_line 15 = .ok (.invokevirtual 340, 3) := by decide +kernel
theorem dX10_line_18 : decode cX10_line 18 = .ok (.aload_n 0, 1) := by decide +kernel
theorem dX10_line_19 : decode cX10_line 19 = .ok (.invokevirtual 343, 3) := by decide +kernel
theorem dX10_line_22 : decode cX10_line 22 = .ok (.istore_n 1, 1) := by decide +kernel
theorem dX10_line_23 : decode cX10_line 23 = .ok (.iload_n 1, 1) := by decide +kernel
theorem dX10_line_24 : decode cX10_line 24 = .ok (.aload_n 0, 1) := by decide +kernel
theorem dX10_line_25 : decode cX10_line 25 = .ok (.getfield 37, 3) := by decide +kernel
theorem dX10_line_28 : decode cX10_line 28 = .ok (.iconst 2, 1) := by decide +kernel
theorem dX10_line_29 : decode cX10_line 29 = .ok (.iaload, 1) := by decide +kernel
theorem dX10_line_30 : decode cX10_line 30 = .ok (.if_icmp .le 5, 3) := by decide +kernel
theorem dX10_line_33 : decode cX10_line 33 = .ok (.iconst (-1), 1) := by decide +kernel
theorem dX10_line_34 : decode cX10_line 34 = .ok (.ireturn, 1) := by decide +kernel
theorem dX10_line_35 : decode cX10_line 35 = .ok (.aload_n 0, 1) := by decide +kernel
theorem dX10_line_36 : decode cX10_line 36 = .ok (.getfield 37, 3) := by decide +kernel
theorem dX10_line_39 : decode cX10_line 39 = .ok (.bipush 6, 2) := by decide +kernel
theorem dX10_line_41 : decode cX10_line 41 = .ok (.iaload, 1) := by decide +kernel
theorem dX10_line_42 : decode cX10_line 42 = .ok (.istore_n 2, 1) := by decide +kernel
theorem dX10_line_43 : decode cX10_line 43 = .ok (.iload_n 2, 1) := by decide +kernel
theorem dX10_line_44 : decode cX10_line 44 = .ok (.ifCond .lt 120, 3) := by decide +kernel
theorem dX10_line_47 : decode cX10_line 47 = .ok (.iconst 0, 1) := by decide +kernel
theorem dX10_line_48 : decode cX10_line 48 = .ok (.istore_n 3, 1) := by decide +kernel
theorem dX10_line_49 : decode cX10_line 49 = .ok (.iload_n 3, 1) := by decide +kernel
theorem dX10_line_50 : decode cX10_line 50 = .ok (.bipush 10, 2) := by decide +kernel
theorem dX10_line_52 : decode cX10_line 52 = .ok (.if_icmp .ge 106, 3) := by decide +kernel
theorem dX10_line_55 : decode cX10_line 55 = .ok (.bipush 10, 2) := by decide +kernel
theorem dX10_line_57 : decode cX10_line 57 = .ok (.istore 4, 2) := by decide +kernel
theorem dX10_line_59 : decode cX10_line 59 = .ok (.iload 4, 2) := by decide +kernel
theorem dX10_line_61 : decode cX10_line 61 = .ok (.sipush 250, 3) := by decide +kernel
theorem dX10_line_64 : decode cX10_line 64 = .ok (.if_icmp .gt 88, 3) := by decide +kernel
theorem dX10_line_67 : decode cX10_line 67 = .ok (.iload_n 2, 1) := by decide +kernel
theorem dX10_line_68 : decode cX10_line 68 = .ok (.aload_n 0, 1) := by decide +kernel
theorem dX10_line_69 : decode cX10_line 69 = .ok (.getfield 37, 3) := by decide +kernel
theorem dX10_line_72 : decode cX10_line 72 = .ok (.bipush 6, 2) := by decide +kernel
theorem dX10_line_74 : decode cX10_line 74 = .ok (.iaload, 1) := by decide +kernel
theorem dX10_line_75 : decode cX10_line 75 = .ok (.if_icmp .ne 7, 3) := by decide +kernel
theorem dX10_line_78 : decode cX10_line 78 = .ok (.iconst 0, 1) := by decide +kernel
theorem dX10_line_79 : decode cX10_line 79 = .ok (.goto 6, 3) := by decide +kernel
theorem dX10_line_82 : decode cX10_line 82 = .ok (.ldc_w 394, 3) := by decide +kernel
theorem dX10_line_85 : decode cX10_line 85 = .ok (.istore 5, 2) := by decide +kernel
theorem dX10_line_87 : decode cX10_line 87 = .ok (.iconst 0, 1) := by decide +kernel
theorem dX10_line_88 : decode cX10_line 88 = .ok (.istore 6, 2) := by decide +kernel
theorem dX10_line_90 : decode cX10_line 90 = .ok (.iload_n 2, 1) := by decide +kernel
theorem dX10_line_91 : decode cX10_line 91 = .ok (.aload_n 0, 1) := by decide +kernel
theorem dX10_line_92 : decode cX10_line 92 = .ok (.getfield 37, 3) := by decide +kernel
theorem dX10_line_95 : decode cX10_line 95 = .ok (.bipush 6, 2) := by decide +kernel
theorem dX10_line_97 : decode cX10_line 97 = .ok (.iaload, 1) := by decide +kernel
theorem dX10_line_98 : decode cX10_line 98 = .ok (.if_icmp .ge 34, 3) := by decide +kernel
theorem dX10_line_101 : decode cX10_line 101 = .ok (.iload 6, 2) := by decide +kernel
theorem dX10_line_103 : decode cX10_line 103 = .ok (.bipush 10, 2) := by decide +kernel
theorem dX10_line_105 : decode cX10_line 105 = .ok (.if_icmp .ge 27, 3) := by decide +kernel
theorem dX10_line_108 : decode cX10_line 108 = .ok (.iload 5, 2) := by decide +kernel
theorem dX10_line_110 : decode cX10_line 110 = .ok (.aload_n 0, 1) := by decide +kernel
theorem dX10_line_111 : decode cX10_line 111 = .ok (.iload_n 2, 1) := by decide +kernel
theorem dX10_line_112 : decode cX10_line 112 = .ok (.iload_n 3, 1) := by decide +kernel
theorem dX10_line_113 : decode cX10_line 113 = .ok (.iload 4, 2) := by decide +kernel
theorem dX10_line_115 : decode cX10_line 115 = .ok (.iload_n 1, 1) := by decide +kernel
theorem dX10_line_116 : decode cX10_line 116 = .ok (.iload 6, 2) := by decide +kernel
theorem dX10_line_118 : decode cX10_line 118 = .ok (.invokevirtual 410, 3) := by decide +kernel
theorem dX10_line_121 : decode cX10_line 121 = .ok (.invokestatic 27, 3) := by decide +kernel
theorem dX10_line_124 : decode cX10_line 124 = .ok (.istore 5, 2) := by decide +kernel
theorem dX10_line_126 : decode cX10_line 126 = .ok (.iinc 6 1, 3) := by decide +kernel
theorem dX10_line_129 : decode cX10_line 129 = .ok (.goto (-39), 3) := by decide +kernel
theorem dX10_line_132 : decode cX10_line 132 = .ok (.aload_n 0, 1) := by decide +kernel
theorem dX10_line_133 : decode cX10_line 133 = .ok (.getfield 95, 3) := by decide +kernel
theorem dX10_line_136 : decode cX10_line 136 = .ok (.iload_n 2, 1) := by decide +kernel
theorem dX10_line_137 : decode cX10_line 137 = .ok (.iload_n 3, 1) := by decide +kernel
theorem dX10_line_138 : decode cX10_line 138 = .ok (.iload 4, 2) := by decide +kernel
theorem dX10_line_140 : decode cX10_line 140 = .ok (.invokestatic 407, 3) := by decide +kernel
theorem dX10_line_143 : decode cX10_line 143 = .ok (.iload 5, 2) := by decide +kernel
theorem dX10_line_145 : decode cX10_line 145 = .ok (.iastore, 1) := by decide +kernel
theorem dX10_line_146 : decode cX10_line 146 = .ok (.iinc 4 1, 3) := by decide +kernel
theorem dX10_line_149 : decode cX10_line 149 = .ok (.goto (-90), 3) := by decide +kernel
theorem dX10_line_152 : decode cX10_line 152 = .ok (.iinc 3 1, 3) := by decide +kernel
theorem dX10_line_155 : decode cX10_line 155 = .ok (.goto (-106), 3) := by decide +kernel
theorem dX10_line_158 : decode cX10_line 158 = .ok (.iinc 2 (-1), 3) := by decide +kernel
theorem dX10_line_161 : decode cX10_line 161 = .ok (.goto (-118), 3) := by decide +kernel
theorem dX10_line_164 : decode cX10_line 164 = .ok (.aload_n 0, 1) := by decide +kernel
theorem dX10_line_165 : decode cX10_line 165 = .ok (.getfield 95, 3) := by decide +kernel
theorem dX10_line_168 : decode cX10_line 168 = .ok (.iconst 0, 1) := by decide +kernel
theorem dX10_line_169 : decode cX10_line 169 = .ok (.iconst 0, 1) := by decide +kernel
theorem dX10_line_170 : decode cX10_line 170 = .ok (.aload_n 0, 1) := by decide +kernel
theorem dX10_line_171 : decode cX10_line 171 = .ok (.getfield 337, 3) := by decide +kernel
theorem dX10_line_174 : decode cX10_line 174 = .ok (.invokestatic 407, 3) := by decide +kernel
theorem dX10_line_177 : decode cX10_line 177 = .ok (.iaload, 1) := by decide +kernel
theorem dX10_line_178 : decode cX10_line 178 = .ok (.istore_n 2, 1) := by decide +kernel
theorem dX10_line_179 : decode cX10_line 179 = .ok (.iload_n 2, 1) := by decide +kernel
theorem dX10_line_180 : decode cX10_line 180 = .ok (.ldc_w 394, 3) := by decide +kernel
theorem dX10_line_183 : decode cX10_line 183 = .ok (.if_icmp .lt 5, 3) := by decide +kernel
theorem dX10_line_186 : decode cX10_line 186 = .ok (.iconst (-1), 1) := by decide +kernel
theorem dX10_line_187 : decode cX10_line 187 = .ok (.ireturn, 1) := by decide +kernel
theorem dX10_line_188 : decode cX10_line 188 = .ok (.aload_n 0, 1) := by decide +kernel
theorem dX10_line_189 : decode cX10_line 189 = .ok (.getfield 337, 3) := by decide +kernel
theorem dX10_line_192 : decode cX10_line 192 = .ok (.istore_n 3, 1) := by decide +kernel
theorem dX10_line_193 : decode cX10_line 193 = .ok (.iconst 0, 1) := by decide +kernel
theorem dX10_line_194 : decode cX10_line 194 = .ok (.istore 4, 2) := by decide +kernel
theorem dX10_line_196 : decode cX10_line 196 = .ok (.iconst 0, 1) := by decide +kernel
theorem dX10_line_197 : decode cX10_line 197 = .ok (.istore 5, 2) := by decide +kernel
theorem dX10_line_199 : decode cX10_line 199 = .ok (.iload 5, 2) := by decide +kernel
theorem dX10_line_201 : decode cX10_line 201 = .ok (.aload_n 0, 1) := by decide +kernel
theorem dX10_line_202 : decode cX10_line 202 = .ok (.getfield 37, 3) := by decide +kernel
theorem dX10_line_205 : decode cX10_line 205 = .ok (.bipush 6, 2) := by decide +kernel
theorem dX10_line_207 : decode cX10_line 207 = .ok (.iaload, 1) := by decide +kernel
theorem dX10_line_208 : decode cX10_line 208 = .ok (.if_icmp .ge 72, 3) := by decide +kernel
theorem dX10_line_211 : decode cX10_line 211 = .ok (.iconst 0, 1) := by decide +kernel
theorem dX10_line_212 : decode cX10_line 212 = .ok (.istore 6, 2) := by decide +kernel
theorem dX10_line_214 : decode cX10_line 214 = .ok (.aload_n 0, 1) := by decide +kernel
theorem dX10_line_215 : decode cX10_line 215 = .ok (.iload 5, 2) := by decide +kernel
theorem dX10_line_217 : decode cX10_line 217 = .ok (.iload 4, 2) := by decide +kernel
theorem dX10_line_219 : decode cX10_line 219 = .ok (.iload_n 3, 1) := by decide +kernel
theorem dX10_line_220 : decode cX10_line 220 = .ok (.iload_n 1, 1) := by decide +kernel
theorem dX10_line_221 : decode cX10_line 221 = .ok (.iload 6, 2) := by decide +kernel
theorem dX10_line_223 : decode cX10_line 223 = .ok (.invokevirtual 410, 3) := by decide +kernel
theorem dX10_line_226 : decode cX10_line 226 = .ok (.aload_n 0, 1) := by decide +kernel
theorem dX10_line_227 : decode cX10_line 227 = .ok (.getfield 95, 3) := by decide +kernel
theorem dX10_line_230 : decode cX10_line 230 = .ok (.iload 5, 2) := by decide +kernel
theorem dX10_line_232 : decode cX10_line 232 = .ok (.iload 4, 2) := by decide +kernel
theorem dX10_line_234 : decode cX10_line 234 = .ok (.iload_n 3, 1) := by decide +kernel
theorem dX10_line_235 : decode cX10_line 235 = .ok (.invokestatic 407, 3) := by decide +kernel
theorem dX10_line_238 : decode cX10_line 238 = .ok (.iaload, 1) := by decide +kernel
theorem dX10_line_239 : decode cX10_line 239 = .ok (.if_icmp .eq 9, 3) := by decide +kernel
theorem dX10_line_242 : decode cX10_line 242 = .ok (.iinc 6 1, 3) := by decide +kernel
theorem dX10_line_245 : decode cX10_line 245 = .ok (.goto (-31), 3) := by decide +kernel
theorem dX10_line_248 : decode cX10_line 248 = .ok (.aload_n 0, 1) := by decide +kernel
theorem dX10_line_249 : decode cX10_line 249 = .ok (.getfield 98, 3) := by decide +kernel
theorem dX10_line_252 : decode cX10_line 252 = .ok (.iload 5, 2) := by decide +kernel
theorem dX10_line_254 : decode cX10_line 254 = .ok (.iload 6, 2) := by decide +kernel
theorem dX10_line_256 : decode cX10_line 256 = .ok (.iastore, 1) := by decide +kernel
theorem dX10_line_257 : decode cX10_line 257 = .ok (.aload_n 0, 1) := by decide +kernel
theorem dX10_line_258 : decode cX10_line 258 = .ok (.iload 5, 2) := by decide +kernel
theorem dX10_line_260 : decode cX10_line 260 = .ok (.iload_n 3, 1) := by decide +kernel
theorem dX10_line_261 : decode cX10_line 261 = .ok (.iload_n 1, 1) := by decide +kernel
theorem dX10_line_262 : decode cX10_line 262 = .ok (.iload 4, 2) := by decide +kernel
theorem dX10_line_264 : decode cX10_line 264 = .ok (.iload 6, 2) := by decide +kernel
theorem dX10_line_266 : decode cX10_line 266 = .ok (.invokevirtual 355, 3) := by decide +kernel
theorem dX10_line_269 : decode cX10_line 269 = .ok (.istore_n 3, 1) := by decide +kernel
theorem dX10_line_270 : decode cX10_line 270 = .ok (.iload 6, 2) := by decide +kernel
theorem dX10_line_272 : decode cX10_line 272 = .ok (.istore 4, 2) := by decide +kernel
theorem dX10_line_274 : decode cX10_line 274 = .ok (.iinc 5 1, 3) := by decide +kernel
theorem dX10_line_277 : decode cX10_line 277 = .ok (.goto (-78), 3) := by decide +kernel
theorem dX10_line_280 : decode cX10_line 280 = .ok (.aload_n 0, 1) := by decide +kernel
theorem dX10_line_281 : decode cX10_line 281 = .ok (.aload_n 0, 1) := by decide +kernel
theorem dX10_line_282 : decode cX10_line 282 = .ok (.getfield 37, 3) := by decide +kernel
theorem dX10_line_285 : decode cX10_line 285 = .ok (.bipush 6, 2) := by decide +kernel
theorem dX10_line_287 : decode cX10_line 287 = .ok (.iaload, 1) := by decide +kernel
theorem dX10_line_288 : decode cX10_line 288 = .ok (.putfield 413, 3) := by decide +kernel
theorem dX10_line_291 : decode cX10_line 291 = .ok (.aload_n 0, 1) := by decide +kernel
theorem dX10_line_292 : decode cX10_line 292 = .ok (.aload_n 0, 1) := by decide +kernel
theorem dX10_line_293 : decode cX10_line 293 = .ok (.getfield 37, 3) := by decide +kernel
theorem dX10_line_296 : decode cX10_line 296 = .ok (.sipush 334, 3) := by decide +kernel
theorem dX10_line_299 : decode cX10_line 299 = .ok (.iaload, 1) := by decide +kernel
theorem dX10_line_300 : decode cX10_line 300 = .ok (.putfield 101, 3) := by decide +kernel
theorem dX10_line_303 : decode cX10_line 303 = .ok (.aload_n 0, 1) := by decide +kernel
theorem dX10_line_304 : decode cX10_line 304 = .ok (.iconst 1, 1) := by decide +kernel
theorem dX10_line_305 : decode cX10_line 305 = .ok (.putfield 416, 3) := by decide +kernel
theorem dX10_line_308 : decode cX10_line 308 = .ok (.aload_n 0, 1) := by decide +kernel
theorem dX10_line_309 : decode cX10_line 309 = .ok (.getfield 314, 3) := by decide +kernel
theorem dX10_line_312 : decode cX10_line 312 = .ok (.iload_n 2, 1) := by decide +kernel
theorem dX10_line_313 : decode cX10_line 313 = .ok (.iadd, 1) := by decide +kernel
theorem dX10_line_314 : decode cX10_line 314 = .ok (.ireturn, 1) := by decide +kernel
theorem dX10_height_0 : decode cX10_height 0 = .ok (.aload_n 0, 1) := by decide +kernel
theorem dX10_height_1 : decode cX10_height 1 = .ok (.iconst 0, 1) := by decide +kernel
theorem dX10_height_2 : decode cX10_height 2 = .ok (.putfield 1, 3) := by decide +kernel
theorem dX10_height_5 : decode cX10_height 5 = .ok (.aload_n 0, 1) := by decide +kernel
theorem dX10_height_6 : decode cX10_height 6 = .ok (.getfield 416, 3) := by decide +kernel
theorem dX10_height_9 : decode cX10_height 9 = .ok (.ifCond .eq 26, 3) := by decide +kernel
theorem dX10_height_12 : decode cX10_height 12 = .ok (.iload_n 1, 1) := by decide +kernel
theorem dX10_height_13 : decode cX10_height 13 = .ok (.iconst 0, 1) := by decide +kernel
theorem dX10_height_14 : decode cX10_height 14 = .ok (.aload_n 0, 1) := by decide +kernel
theorem dX10_height_15 : decode cX10_height 15 = .ok (.getfield 413, 3) := by decide +kernel
theorem dX10_height_18 : decode cX10_height 18 = .ok (.iconst 1, 1) := by decide +kernel
theorem dX10_height_19 : decode cX10_height 19 = .ok (.isub, 1) := by decide +kernel
theorem dX10_height_20 : decode cX10_height 20 = .ok (.invokestatic 211, 3) := by decide +kernel
theorem dX10_height_23 : decode cX10_height 23 = .ok (.ifCond .eq 12, 3) := by decide +kernel
theorem dX10_height_26 : decode cX10_height 26 = .ok (.aload_n 0, 1) := by decide +kernel
theorem dX10_height_27 : decode cX10_height 27 = .ok (.getfield 98, 3) := by decide +kernel
theorem dX10_height_30 : decode cX10_height 30 = .ok (.iload_n 1, 1) := by decide +kernel
theorem dX10_height_31 : decode cX10_height 31 = .ok (.iaload, 1) := by decide +kernel
theorem dX10_height_32 : decode cX10_height 32 = .ok (.goto 4, 3) := by decide +kernel
theorem dX10_height_35 : decode cX10_height 35 = .ok (.iconst (-1), 1) := by decide +kernel
theorem dX10_height_36 : decode cX10_height 36 = .ok (.ireturn, 1) := by decide +kernel
theorem dX10_take_0 : decode cX10_take 0 = .ok (.aload_n 0, 1) := by decide +kernel
theorem dX10_take_1 : decode cX10_take 1 = .ok (.iconst 0, 1) := by decide +kernel
theorem dX10_take_2 : decode cX10_take 2 = .ok (.putfield 1, 3) := by decide +kernel
theorem dX10_take_5 : decode cX10_take 5 = .ok (.iload_n 1, 1) := by decide +kernel
theorem dX10_take_6 : decode cX10_take 6 = .ok (.ifCond .ne 67, 3) := by decide +kernel
theorem dX10_take_9 : decode cX10_take 9 = .ok (.aload_n 0, 1) := by decide +kernel
theorem dX10_take_10 : decode cX10_take 10 = .ok (.getfield 416, 3) := by decide +kernel
theorem dX10_take_13 : decode cX10_take 13 = .ok (.ifCond .eq 18, 3) := by decide +kernel
theorem dX10_take_16 : decode cX10_take 16 = .ok (.aload_n 0, 1) := by decide +kernel
theorem dX10_take_17 : decode cX10_take 17 = .ok (.getfield 101, 3) := by decide +kernel
theorem dX10_take_20 : decode cX10_take 20 = .ok (.aload_n 0, 1) := by decide +kernel
theorem dX10_take_21 : decode cX10_take 21 = .ok (.getfield 37, 3) := by decide +kernel
theorem dX10_take_24 : decode cX10_take 24 = .ok (.sipush 334, 3) := by decide +kernel
theorem dX10_take_27 : decode cX10_take 27 = .ok (.iaload, 1) := by decide +kernel
theorem dX10_take_28 : decode cX10_take 28 = .ok (.if_icmp .eq 5, 3) := by decide +kernel
theorem dX10_take_31 : decode cX10_take 31 = .ok (.iconst 0, 1) := by decide +kernel
theorem dX10_take_32 : decode cX10_take 32 = .ok (.ireturn, 1) := by decide +kernel
theorem dX10_take_33 : decode cX10_take 33 = .ok (.aload_n 0, 1) := by decide +kernel
theorem dX10_take_34 : decode cX10_take 34 = .ok (.invokevirtual 371, 3) := by decide +kernel
theorem dX10_take_37 : decode cX10_take 37 = .ok (.iconst 0, 1) := by decide +kernel
theorem dX10_take_38 : decode cX10_take 38 = .ok (.istore_n 2, 1) := by decide +kernel
theorem dX10_take_39 : decode cX10_take 39 = .ok (.iload_n 2, 1) := by decide +kernel
theorem dX10_take_40 : decode cX10_take 40 = .ok (.aload_n 0, 1) := by decide +kernel
theorem dX10_take_41 : decode cX10_take 41 = .ok (.getfield 37, 3) := by decide +kernel
theorem dX10_take_44 : decode cX10_take 44 = .ok (.bipush 6, 2) := by decide +kernel
theorem dX10_take_46 : decode cX10_take 46 = .ok (.iaload, 1) := by decide +kernel
theorem dX10_take_47 : decode cX10_take 47 = .ok (.if_icmp .ge 24, 3) := by decide +kernel
theorem dX10_take_50 : decode cX10_take 50 = .ok (.aload_n 0, 1) := by decide +kernel
theorem dX10_take_51 : decode cX10_take 51 = .ok (.getfield 37, 3) := by decide +kernel
theorem dX10_take_54 : decode cX10_take 54 = .ok (.bipush 116, 2) := by decide +kernel
theorem dX10_take_56 : decode cX10_take 56 = .ok (.iload_n 2, 1) := by decide +kernel
theorem dX10_take_57 : decode cX10_take 57 = .ok (.iadd, 1) := by decide +kernel
theorem dX10_take_58 : decode cX10_take 58 = .ok (.aload_n 0, 1) := by decide +kernel
theorem dX10_take_59 : decode cX10_take 59 = .ok (.getfield 98, 3) := by decide +kernel
theorem dX10_take_62 : decode cX10_take 62 = .ok (.iload_n 2, 1) := by decide +kernel
theorem dX10_take_63 : decode cX10_take 63 = .ok (.iaload, 1) := by decide +kernel
theorem dX10_take_64 : decode cX10_take 64 = .ok (.iastore, 1) := by decide +kernel
theorem dX10_take_65 : decode cX10_take 65 = .ok (.iinc 2 1, 3) := by decide +kernel
theorem dX10_take_68 : decode cX10_take 68 = .ok (.goto (-29), 3) := by decide +kernel
theorem dX10_take_71 : decode cX10_take 71 = .ok (.iconst 1, 1) := by decide +kernel
theorem dX10_take_72 : decode cX10_take 72 = .ok (.ireturn, 1) := by decide +kernel
theorem dX10_take_73 : decode cX10_take 73 = .ok (.iload_n 1, 1) := by decide +kernel
theorem dX10_take_74 : decode cX10_take 74 = .ok (.iconst 1, 1) := by decide +kernel
theorem dX10_take_75 : decode cX10_take 75 = .ok (.if_icmp .ne 36, 3) := by decide +kernel
theorem dX10_take_78 : decode cX10_take 78 = .ok (.aload_n 0, 1) := by decide +kernel
theorem dX10_take_79 : decode cX10_take 79 = .ok (.getfield 404, 3) := by decide +kernel
theorem dX10_take_82 : decode cX10_take 82 = .ok (.ifCond .eq 29, 3) := by decide +kernel
theorem dX10_take_85 : decode cX10_take 85 = .ok (.aload_n 0, 1) := by decide +kernel
theorem dX10_take_86 : decode cX10_take 86 = .ok (.getfield 85, 3) := by decide +kernel
theorem dX10_take_89 : decode cX10_take 89 = .ok (.aload_n 0, 1) := by decide +kernel
theorem dX10_take_90 : decode cX10_take 90 = .ok (.getfield 37, 3) := by decide +kernel
theorem dX10_take_93 : decode cX10_take 93 = .ok (.sipush 334, 3) := by decide +kernel
theorem dX10_take_96 : decode cX10_take 96 = .ok (.iaload, 1) := by decide +kernel
theorem dX10_take_97 : decode cX10_take 97 = .ok (.if_icmp .ne 14, 3) := by decide +kernel
theorem dX10_take_100 : decode cX10_take 100 = .ok (.aload_n 0, 1) := by decide +kernel
theorem dX10_take_101 : decode cX10_take 101 = .ok (.invokevirtual 281, 3) := by decide +kernel
theorem dX10_take_104 : decode cX10_take 104 = .ok (.ifCond .eq 7, 3) := by decide +kernel
theorem dX10_take_107 : decode cX10_take 107 = .ok (.iconst 1, 1) := by decide +kernel
theorem dX10_take_108 : decode cX10_take 108 = .ok (.goto 4, 3) := by decide +kernel
theorem dX10_take_111 : decode cX10_take 111 = .ok (.iconst 0, 1) := by decide +kernel
theorem dX10_take_112 : decode cX10_take 112 = .ok (.istore_n 2, 1) := by decide +kernel
theorem dX10_take_113 : decode cX10_take 113 = .ok (.iconst 0, 1) := by decide +kernel
theorem dX10_take_114 : decode cX10_take 114 = .ok (.istore_n 3, 1) := by decide +kernel
theorem dX10_take_115 : decode cX10_take 115 = .ok (.iload_n 3, 1) := by decide +kernel
theorem dX10_take_116 : decode cX10_take 116 = .ok (.iconst 4, 1) := by decide +kernel
theorem dX10_take_117 : decode cX10_take 117 = .ok (.if_icmp .ge 37, 3) := by decide +kernel
theorem dX10_take_120 : decode cX10_take 120 = .ok (.iload_n 2, 1) := by decide +kernel
theorem dX10_take_121 : decode cX10_take 121 = .ok (.ifCond .eq 33, 3) := by decide +kernel
theorem dX10_take_124 : decode cX10_take 124 = .ok (.aload_n 0, 1) := by decide +kernel
theorem dX10_take_125 : decode cX10_take 125 = .ok (.getfield 37, 3) := by decide +kernel
theorem dX10_take_128 : decode cX10_take 128 = .ok (.bipush 105, 2) := by decide +kernel
theorem dX10_take_130 : decode cX10_take 130 = .ok (.iload_n 3, 1) := by decide +kernel
theorem dX10_take_131 : decode cX10_take 131 = .ok (.iadd, 1) := by decide +kernel
theorem dX10_take_132 : decode cX10_take 132 = .ok (.iaload, 1) := by decide +kernel
theorem dX10_take_133 : decode cX10_take 133 = .ok (.aload_n 0, 1) := by decide +kernel
theorem dX10_take_134 : decode cX10_take 134 = .ok (.getfield 82, 3) := by decide +kernel
theorem dX10_take_137 : decode cX10_take 137 = .ok (.iload_n 3, 1) := by decide +kernel
theorem dX10_take_138 : decode cX10_take 138 = .ok (.iaload, 1) := by decide +kernel
theorem dX10_take_139 : decode cX10_take 139 = .ok (.if_icmp .ne 7, 3) := by decide +kernel
theorem dX10_take_142 : decode cX10_take 142 = .ok (.iconst 1, 1) := by decide +kernel
theorem dX10_take_143 : decode cX10_take 143 = .ok (.goto 4, 3) := by decide +kernel
theorem dX10_take_146 : decode cX10_take 146 = .ok (.iconst 0, 1) := by decide +kernel
theorem dX10_take_147 : decode cX10_take 147 = .ok (.istore_n 2, 1) := by decide +kernel
theorem dX10_take_148 : decode cX10_take 148 = .ok (.iinc 3 1, 3) := by decide +kernel
theorem dX10_take_151 : decode cX10_take 151 = .ok (.goto (-36), 3) := by decide +kernel
theorem dX10_take_154 : decode cX10_take 154 = .ok (.iload_n 2, 1) := by decide +kernel
theorem dX10_take_155 : decode cX10_take 155 = .ok (.ifCond .ne 5, 3) := by decide +kernel
theorem dX10_take_158 : decode cX10_take 158 = .ok (.iconst 0, 1) := by decide +kernel
theorem dX10_take_159 : decode cX10_take 159 = .ok (.ireturn, 1) := by decide +kernel
theorem dX10_take_160 : decode cX10_take 160 = .ok (.aload_n 0, 1) := by decide +kernel
theorem dX10_take_161 : decode cX10_take 161 = .ok (.invokevirtual 371, 3) := by decide +kernel
theorem dX10_take_164 : decode cX10_take 164 = .ok (.iconst 0, 1) := by decide +kernel
theorem dX10_take_165 : decode cX10_take 165 = .ok (.istore_n 3, 1) := by decide +kernel
theorem dX10_take_166 : decode cX10_take 166 = .ok (.iload_n 3, 1) := by decide +kernel
theorem dX10_take_167 : decode cX10_take 167 = .ok (.iconst 4, 1) := by decide +kernel
theorem dX10_take_168 : decode cX10_take 168 = .ok (.if_icmp .ge 24, 3) := by decide +kernel
theorem dX10_take_171 : decode cX10_take 171 = .ok (.aload_n 0, 1) := by decide +kernel
theorem dX10_take_172 : decode cX10_take 172 = .ok (.getfield 37, 3) := by decide +kernel
theorem dX10_take_175 : decode cX10_take 175 = .ok (.bipush 109, 2) := by decide +kernel
theorem dX10_take_177 : decode cX10_take 177 = .ok (.iload_n 3, 1) := by decide +kernel
theorem dX10_take_178 : decode cX10_take 178 = .ok (.iadd, 1) := by decide +kernel
theorem dX10_take_179 : decode cX10_take 179 = .ok (.aload_n 0, 1) := by decide +kernel
theorem dX10_take_180 : decode cX10_take 180 = .ok (.getfield 79, 3) := by decide +kernel
theorem dX10_take_183 : decode cX10_take 183 = .ok (.iload_n 3, 1) := by decide +kernel
theorem dX10_take_184 : decode cX10_take 184 = .ok (.iaload, 1) := by decide +kernel
theorem dX10_take_185 : decode cX10_take 185 = .ok (.iastore, 1) := by decide +kernel
theorem dX10_take_186 : decode cX10_take 186 = .ok (.iinc 3 1, 3) := by decide +kernel
theorem dX10_take_189 : decode cX10_take 189 = .ok (.goto (-23), 3) := by decide +kernel
theorem dX10_take_192 : decode cX10_take 192 = .ok (.iconst 1, 1) := by decide +kernel
theorem dX10_take_193 : decode cX10_take 193 = .ok (.ireturn, 1) := by decide +kernel
theorem dX10_bits_0 : decode cX10_bits 0 = .ok (.iconst 0, 1) := by decide +kernel
theorem dX10_bits_1 : decode cX10_bits 1 = .ok (.istore_n 1, 1) := by decide +kernel
theorem dX10_bits_2 : decode cX10_bits 2 = .ok (.iload_n 0, 1) := by decide +kernel
theorem dX10_bits_3 : decode cX10_bits 3 = .ok (.istore_n 2, 1) := by decide +kernel
theorem dX10_bits_4 : decode cX10_bits 4 = .ok (.iload_n 2, 1) := by decide +kernel
theorem dX10_bits_5 : decode cX10_bits 5 = .ok (.ifCond .eq 15, 3) := by decide +kernel
theorem dX10_bits_8 : decode cX10_bits 8 = .ok (.iinc 1 1, 3) := by decide +kernel
theorem dX10_bits_11 : decode cX10_bits 11 = .ok (.iload_n 2, 1) := by decide +kernel
theorem dX10_bits_12 : decode cX10_bits 12 = .ok (.iload_n 2, 1) := by decide +kernel
theorem dX10_bits_13 : decode cX10_bits 13 = .ok (.iconst 1, 1) := by decide +kernel
theorem dX10_bits_14 : decode cX10_bits 14 = .ok (.isub, 1) := by decide +kernel
theorem dX10_bits_15 : decode cX10_bits 15 = .ok (.iand, 1) := by decide +kernel
theorem dX10_bits_16 : decode cX10_bits 16 = .ok (.istore_n 2, 1) := by decide +kernel
theorem dX10_bits_17 : decode cX10_bits 17 = .ok (.goto (-13), 3) := by decide +kernel
theorem dX10_bits_20 : decode cX10_bits 20 = .ok (.iload_n 1, 1) := by decide +kernel
theorem dX10_bits_21 : decode cX10_bits 21 = .ok (.ireturn, 1) := by decide +kernel
theorem dX10_four_0 : decode cX10_four 0 = .ok (.aload_n 0, 1) := by decide +kernel
theorem dX10_four_1 : decode cX10_four 1 = .ok (.iconst 0, 1) := by decide +kernel
theorem dX10_four_2 : decode cX10_four 2 = .ok (.putfield 1, 3) := by decide +kernel
theorem dX10_four_5 : decode cX10_four 5 = .ok (.aload_n 0, 1) := by decide +kernel
theorem dX10_four_6 : decode cX10_four 6 = .ok (.getfield 37, 3) := by decide +kernel
theorem dX10_four_9 : decode cX10_four 9 = .ok (.iconst 5, 1) := by decide +kernel
theorem dX10_four_10 : decode cX10_four 10 = .ok (.iaload, 1) := by decide +kernel
theorem dX10_four_11 : decode cX10_four 11 = .ok (.bipush 6, 2) := by decide +kernel
theorem dX10_four_13 : decode cX10_four 13 = .ok (.if_icmp .le 5, 3) := by decide +kernel
theorem dX10_four_16 : decode cX10_four 16 = .ok (.iconst (-1), 1) := by decide +kernel
theorem dX10_four_17 : decode cX10_four 17 = .ok (.ireturn, 1) := by decide +kernel
theorem dX10_four_18 : decode cX10_four 18 = .ok (.aload_n 0, 1) := by decide +kernel
theorem dX10_four_19 : decode cX10_four 19 = .ok (.invokevirtual 419, 3) := by decide +kernel
theorem dX10_four_22 : decode cX10_four 22 = .ok (.ldc_w 394, 3) := by decide +kernel
theorem dX10_four_25 : decode cX10_four 25 = .ok (.istore_n 1, 1) := by decide +kernel
theorem dX10_four_26 : decode cX10_four 26 = .ok (.iconst (-1), 1) := by decide +kernel
theorem dX10_four_27 : decode cX10_four 27 = .ok (.istore_n 2, 1) := by decide +kernel
theorem dX10_four_28 : decode cX10_four 28 = .ok (.iconst 0, 1) := by decide +kernel
theorem dX10_four_29 : decode cX10_four 29 = .ok (.istore_n 3, 1) := by decide +kernel
theorem dX10_four_30 : decode cX10_four 30 = .ok (.iload_n 3, 1) := by decide +kernel
theorem dX10_four_31 : decode cX10_four 31 = .ok (.iconst 1, 1) := by decide +kernel
theorem dX10_four_32 : decode cX10_four 32 = .ok (.aload_n 0, 1) := by decide +kernel
theorem dX10_four_33 : decode cX10_four 33 = .ok (.getfield 37, 3) := by decide +kernel
theorem dX10_four_36 : decode cX10_four 36 = .ok (.iconst 5, 1) := by decide +kernel
theorem dX10_four_37 : decode cX10_four 37 = .ok (.iaload, 1) := by decide +kernel
theorem dX10_four_38 : decode cX10_four 38 = .ok (.ishl, 1) := by decide +kernel
theorem dX10_four_39 : decode cX10_four 39 = .ok (.if_icmp .ge 90, 3) := by decide +kernel
theorem dX10_four_42 : decode cX10_four 42 = .ok (.iload_n 3, 1) := by decide +kernel
theorem dX10_four_43 : decode cX10_four 43 = .ok (.invokestatic 422, 3) := by decide +kernel
theorem dX10_four_46 : decode cX10_four 46 = .ok (.iconst 4, 1) := by decide +kernel
theorem dX10_four_47 : decode cX10_four 47 = .ok (.if_icmp .eq 6, 3) := by decide +kernel
theorem dX10_four_50 : decode cX10_four 50 = .ok (.goto 73, 3) := by decide +kernel
theorem dX10_four_53 : decode cX10_four 53 = .ok (.iconst 0, 1) := by decide +kernel
theorem dX10_four_54 : decode cX10_four 54 = .ok (.istore 4, 2) := by decide +kernel
theorem dX10_four_56 : decode cX10_four 56 = .ok (.iconst 0, 1) := by decide +kernel
theorem dX10_four_57 : decode cX10_four 57 = .ok (.istore 5, 2) := by decide +kernel
theorem dX10_four_59 : decode cX10_four 59 = .ok (.iload 5, 2) := by decide +kernel
theorem dX10_four_61 : decode cX10_four 61 = .ok (.aload_n 0, 1) := by decide +kernel
theorem dX10_four_62 : decode cX10_four 62 = .ok (.getfield 37, 3) := by decide +kernel
theorem dX10_four_65 : decode cX10_four 65 = .ok (.iconst 5, 1) := by decide +kernel
theorem dX10_four_66 : decode cX10_four 66 = .ok (.iaload, 1) := by decide +kernel
theorem dX10_four_67 : decode cX10_four 67 = .ok (.if_icmp .ge 36, 3) := by decide +kernel
theorem dX10_four_70 : decode cX10_four 70 = .ok (.iload_n 3, 1) := by decide +kernel
theorem dX10_four_71 : decode cX10_four 71 = .ok (.iload 5, 2) := by decide +kernel
theorem dX10_four_73 : decode cX10_four 73 = .ok (.invokestatic 232, 3) := by decide +kernel
theorem dX10_four_76 : decode cX10_four 76 = .ok (.ifCond .ne 6, 3) := by decide +kernel
theorem dX10_four_79 : decode cX10_four 79 = .ok (.goto 18, 3) := by decide +kernel
theorem dX10_four_82 : decode cX10_four 82 = .ok (.aload_n 0, 1) := by decide +kernel
theorem dX10_four_83 : decode cX10_four 83 = .ok (.getfield 37, 3) := by decide +kernel
theorem dX10_four_86 : decode cX10_four 86 = .ok (.bipush 105, 2) := by decide +kernel
theorem dX10_four_88 : decode cX10_four 88 = .ok (.iload 4, 2) := by decide +kernel
theorem dX10_four_90 : decode cX10_four 90 = .ok (.iadd, 1) := by decide +kernel
theorem dX10_four_91 : decode cX10_four 91 = .ok (.iload 5, 2) := by decide +kernel
theorem dX10_four_93 : decode cX10_four 93 = .ok (.iastore, 1) := by decide +kernel
theorem dX10_four_94 : decode cX10_four 94 = .ok (.iinc 4 1, 3) := by decide +kernel
theorem dX10_four_97 : decode cX10_four 97 = .ok (.iinc 5 1, 3) := by decide +kernel
theorem dX10_four_100 : decode cX10_four 100 = .ok (.goto (-41), 3) := by decide +kernel
theorem dX10_four_103 : decode cX10_four 103 = .ok (.aload_n 0, 1) := by decide +kernel
theorem dX10_four_104 : decode cX10_four 104 = .ok (.invokevirtual 401, 3) := by decide +kernel
theorem dX10_four_107 : decode cX10_four 107 = .ok (.istore 5, 2) := by decide +kernel
theorem dX10_four_109 : decode cX10_four 109 = .ok (.iload 5, 2) := by decide +kernel
theorem dX10_four_111 : decode cX10_four 111 = .ok (.iload_n 1, 1) := by decide +kernel
theorem dX10_four_112 : decode cX10_four 112 = .ok (.if_icmp .lt 6, 3) := by decide +kernel
theorem dX10_four_115 : decode cX10_four 115 = .ok (.goto 8, 3) := by decide +kernel
theorem dX10_four_118 : decode cX10_four 118 = .ok (.iload 5, 2) := by decide +kernel
theorem dX10_four_120 : decode cX10_four 120 = .ok (.istore_n 1, 1) := by decide +kernel
theorem dX10_four_121 : decode cX10_four 121 = .ok (.iload_n 3, 1) := by decide +kernel
theorem dX10_four_122 : decode cX10_four 122 = .ok (.istore_n 2, 1) := by decide +kernel
theorem dX10_four_123 : decode cX10_four 123 = .ok (.iinc 3 1, 3) := by decide +kernel
theorem dX10_four_126 : decode cX10_four 126 = .ok (.goto (-96), 3) := by decide +kernel
theorem dX10_four_129 : decode cX10_four 129 = .ok (.aload_n 0, 1) := by decide +kernel
theorem dX10_four_130 : decode cX10_four 130 = .ok (.invokevirtual 425, 3) := by decide +kernel
theorem dX10_four_133 : decode cX10_four 133 = .ok (.iload_n 2, 1) := by decide +kernel
theorem dX10_four_134 : decode cX10_four 134 = .ok (.ireturn, 1) := by decide +kernel
theorem dX10_timeWith_0 : decode cX10_timeWith 0 = .ok (.aload_n 0, 1) := by decide +kernel
theorem dX10_timeWith_1 : decode cX10_timeWith 1 = .ok (.getfield 37, 3) := by decide +kernel
theorem dX10_timeWith_4 : decode cX10_timeWith 4 = .ok (.iload_n 1, 1) := by decide +kernel
theorem dX10_timeWith_5 : decode cX10_timeWith 5 = .ok (.iaload, 1) := by decide +kernel
theorem dX10_timeWith_6 : decode cX10_timeWith 6 = .ok (.istore_n 3, 1) := by decide +kernel
theorem dX10_timeWith_7 : decode cX10_timeWith 7 = .ok (.aload_n 0, 1) := by decide +kernel
theorem dX10_timeWith_8 : decode cX10_timeWith 8 = .ok (.getfield 37, 3) := by decide +kernel
theorem dX10_timeWith_11 : decode cX10_timeWith 11 = .ok (.iload_n 1, 1) := by decide +kernel
theorem dX10_timeWith_12 : decode cX10_timeWith 12 = .ok (.iload_n 2, 1) := by decide +kernel
theorem dX10_timeWith_13 : decode cX10_timeWith 13 = .ok (.iastore, 1) := by decide +kernel
theorem dX10_timeWith_14 : decode cX10_timeWith 14 = .ok (.aload_n 0, 1) := by decide +kernel
theorem dX10_timeWith_15 : decode cX10_timeWith 15 = .ok (.invokevirtual 368, 3) := by decide +kernel
theorem dX10_timeWith_18 : decode cX10_timeWith 18 = .ok (.istore 4, 2) := by decide +kernel
theorem dX10_timeWith_20 : decode cX10_timeWith 20 = .ok (.aload_n 0, 1) := by decide +kernel
theorem dX10_timeWith_21 : decode cX10_timeWith 21 = .ok (.getfield 37, 3) := by decide +kernel
theorem dX10_timeWith_24 : decode cX10_timeWith 24 = .ok (.iload_n 1, 1) := by decide +kernel
theorem dX10_timeWith_25 : decode cX10_timeWith 25 = .ok (.iload_n 3, 1) := by decide +kernel
theorem dX10_timeWith_26 : decode cX10_timeWith 26 = .ok (.iastore, 1) := by decide +kernel
theorem dX10_timeWith_27 : decode cX10_timeWith 27 = .ok (.iload 4, 2) := by decide +kernel
theorem dX10_timeWith_29 : decode cX10_timeWith 29 = .ok (.ireturn, 1) := by decide +kernel
theorem dX10_less_0 : decode cX10_less 0 = .ok (.iload_n 0, 1) := by decide +kernel
theorem dX10_less_1 : decode cX10_less 1 = .ok (.ifCond .lt 7, 3) := by decide +kernel
theorem dX10_less_4 : decode cX10_less 4 = .ok (.iload_n 1, 1) := by decide +kernel
theorem dX10_less_5 : decode cX10_less 5 = .ok (.ifCond .ge 9, 3) := by decide +kernel
theorem dX10_less_8 : decode cX10_less 8 = .ok (.ldc_w 428, 3) := by decide +kernel
theorem dX10_less_11 : decode cX10_less 11 = .ok (.goto 6, 3) := by decide +kernel
theorem dX10_less_14 : decode cX10_less 14 = .ok (.iload_n 0, 1) := by decide +kernel
theorem dX10_less_15 : decode cX10_less 15 = .ok (.iload_n 1, 1) := by decide +kernel
theorem dX10_less_16 : decode cX10_less 16 = .ok (.isub, 1) := by decide +kernel
theorem dX10_less_17 : decode cX10_less 17 = .ok (.ireturn, 1) := by decide +kernel
theorem dX10_kilo_0 : decode cX10_kilo 0 = .ok (.aload_n 0, 1) := by decide +kernel
theorem dX10_kilo_1 : decode cX10_kilo 1 = .ok (.iconst 0, 1) := by decide +kernel
theorem dX10_kilo_2 : decode cX10_kilo 2 = .ok (.putfield 1, 3) := by decide +kernel
theorem dX10_kilo_5 : decode cX10_kilo 5 = .ok (.aload_n 0, 1) := by decide +kernel
theorem dX10_kilo_6 : decode cX10_kilo 6 = .ok (.invokevirtual 281, 3) := by decide +kernel
theorem dX10_kilo_9 : decode cX10_kilo 9 = .ok (.ifCond .eq 27, 3) := by decide +kernel
theorem dX10_kilo_12 : decode cX10_kilo 12 = .ok (.iload_n 1, 1) := by decide +kernel
theorem dX10_kilo_13 : decode cX10_kilo 13 = .ok (.iconst 1, 1) := by decide +kernel
theorem dX10_kilo_14 : decode cX10_kilo 14 = .ok (.bipush 99, 2) := by decide +kernel
theorem dX10_kilo_16 : decode cX10_kilo 16 = .ok (.invokestatic 211, 3) := by decide +kernel
theorem dX10_kilo_19 : decode cX10_kilo 19 = .ok (.ifCond .eq 17, 3) := by decide +kernel
theorem dX10_kilo_22 : decode cX10_kilo 22 = .ok (.aload_n 0, 1) := by decide +kernel
theorem dX10_kilo_23 : decode cX10_kilo 23 = .ok (.getfield 37, 3) := by decide +kernel
theorem dX10_kilo_26 : decode cX10_kilo 26 = .ok (.bipush 113, 2) := by decide +kernel
theorem dX10_kilo_28 : decode cX10_kilo 28 = .ok (.iaload, 1) := by decide +kernel
theorem dX10_kilo_29 : decode cX10_kilo 29 = .ok (.iload_n 1, 1) := by decide +kernel
theorem dX10_kilo_30 : decode cX10_kilo 30 = .ok (.iadd, 1) := by decide +kernel
theorem dX10_kilo_31 : decode cX10_kilo 31 = .ok (.bipush 99, 2) := by decide +kernel
theorem dX10_kilo_33 : decode cX10_kilo 33 = .ok (.if_icmp .le 7, 3) := by decide +kernel
theorem dX10_kilo_36 : decode cX10_kilo 36 = .ok (.ldc_w 428, 3) := by decide +kernel
theorem dX10_kilo_39 : decode cX10_kilo 39 = .ok (.ireturn, 1) := by decide +kernel
theorem dX10_kilo_40 : decode cX10_kilo 40 = .ok (.aload_n 0, 1) := by decide +kernel
theorem dX10_kilo_41 : decode cX10_kilo 41 = .ok (.invokevirtual 368, 3) := by decide +kernel
theorem dX10_kilo_44 : decode cX10_kilo 44 = .ok (.aload_n 0, 1) := by decide +kernel
theorem dX10_kilo_45 : decode cX10_kilo 45 = .ok (.bipush 113, 2) := by decide +kernel
theorem dX10_kilo_47 : decode cX10_kilo 47 = .ok (.aload_n 0, 1) := by decide +kernel
theorem dX10_kilo_48 : decode cX10_kilo 48 = .ok (.getfield 37, 3) := by decide +kernel
theorem dX10_kilo_51 : decode cX10_kilo 51 = .ok (.bipush 113, 2) := by decide +kernel
theorem dX10_kilo_53 : decode cX10_kilo 53 = .ok (.iaload, 1) := by decide +kernel
theorem dX10_kilo_54 : decode cX10_kilo 54 = .ok (.iload_n 1, 1) := by decide +kernel
theorem dX10_kilo_55 : decode cX10_kilo 55 = .ok (.iadd, 1) := by decide +kernel
theorem dX10_kilo_56 : decode cX10_kilo 56 = .ok (.invokevirtual 429, 3) := by decide +kernel
theorem dX10_kilo_59 : decode cX10_kilo 59 = .ok (.invokestatic 432, 3) := by decide +kernel
theorem dX10_kilo_62 : decode cX10_kilo 62 = .ok (.ireturn, 1) := by decide +kernel
theorem dX10_runners_0 : decode cX10_runners 0 = .ok (.aload_n 0, 1) := by decide +kernel
theorem dX10_runners_1 : decode cX10_runners 1 = .ok (.iconst 0, 1) := by decide +kernel
theorem dX10_runners_2 : decode cX10_runners 2 = .ok (.putfield 1, 3) := by decide +kernel
theorem dX10_runners_5 : decode cX10_runners 5 = .ok (.aload_n 0, 1) := by decide +kernel
theorem dX10_runners_6 : decode cX10_runners 6 = .ok (.invokevirtual 281, 3) := by decide +kernel
theorem dX10_runners_9 : decode cX10_runners 9 = .ok (.ifCond .ne 5, 3) := by decide +kernel
theorem dX10_runners_12 : decode cX10_runners 12 = .ok (.iconst (-1), 1) := by decide +kernel
theorem dX10_runners_13 : decode cX10_runners 13 = .ok (.ireturn, 1) := by decide +kernel
theorem dX10_runners_14 : decode cX10_runners 14 = .ok (.iconst (-1), 1) := by decide +kernel
theorem dX10_runners_15 : decode cX10_runners 15 = .ok (.istore_n 1, 1) := by decide +kernel
theorem dX10_runners_16 : decode cX10_runners 16 = .ok (.ldc_w 394, 3) := by decide +kernel
theorem dX10_runners_19 : decode cX10_runners 19 = .ok (.istore_n 2, 1) := by decide +kernel
theorem dX10_runners_20 : decode cX10_runners 20 = .ok (.iconst 0, 1) := by decide +kernel
theorem dX10_runners_21 : decode cX10_runners 21 = .ok (.istore_n 3, 1) := by decide +kernel
theorem dX10_runners_22 : decode cX10_runners 22 = .ok (.iload_n 3, 1) := by decide +kernel
theorem dX10_runners_23 : decode cX10_runners 23 = .ok (.aload_n 0, 1) := by decide +kernel
theorem dX10_runners_24 : decode cX10_runners 24 = .ok (.getfield 37, 3) := by decide +kernel
theorem dX10_runners_27 : decode cX10_runners 27 = .ok (.bipush 7, 2) := by decide +kernel
theorem dX10_runners_29 : decode cX10_runners 29 = .ok (.iaload, 1) := by decide +kernel
theorem dX10_runners_30 : decode cX10_runners 30 = .ok (.if_icmp .ge 37, 3) := by decide +kernel
theorem dX10_runners_33 : decode cX10_runners 33 = .ok (.aload_n 0, 1) := by decide +kernel
theorem dX10_runners_34 : decode cX10_runners 34 = .ok (.bipush 114, 2) := by decide +kernel
theorem dX10_runners_36 : decode cX10_runners 36 = .ok (.iload_n 3, 1) := by decide +kernel
theorem dX10_runners_37 : decode cX10_runners 37 = .ok (.invokevirtual 429, 3) := by decide +kernel
theorem dX10_runners_40 : decode cX10_runners 40 = .ok (.istore 4, 2) := by decide +kernel
theorem dX10_runners_42 : decode cX10_runners 42 = .ok (.iload 4, 2) := by decide +kernel
theorem dX10_runners_44 : decode cX10_runners 44 = .ok (.ifCond .lt 17, 3) := by decide +kernel
theorem dX10_runners_47 : decode cX10_runners 47 = .ok (.iload 4, 2) := by decide +kernel
theorem dX10_runners_49 : decode cX10_runners 49 = .ok (.iload_n 2, 1) := by decide +kernel
theorem dX10_runners_50 : decode cX10_runners 50 = .ok (.if_icmp .lt 6, 3) := by decide +kernel
theorem dX10_runners_53 : decode cX10_runners 53 = .ok (.goto 8, 3) := by decide +kernel
theorem dX10_runners_56 : decode cX10_runners 56 = .ok (.iload 4, 2) := by decide +kernel
theorem dX10_runners_58 : decode cX10_runners 58 = .ok (.istore_n 2, 1) := by decide +kernel
theorem dX10_runners_59 : decode cX10_runners 59 = .ok (.iload_n 3, 1) := by decide +kernel
theorem dX10_runners_60 : decode cX10_runners 60 = .ok (.istore_n 1, 1) := by decide +kernel
theorem dX10_runners_61 : decode cX10_runners 61 = .ok (.iinc 3 1, 3) := by decide +kernel
theorem dX10_runners_64 : decode cX10_runners 64 = .ok (.goto (-42), 3) := by decide +kernel
theorem dX10_runners_67 : decode cX10_runners 67 = .ok (.iload_n 1, 1) := by decide +kernel
theorem dX10_runners_68 : decode cX10_runners 68 = .ok (.ireturn, 1) := by decide +kernel
theorem dX10_runs_0 : decode cX10_runs 0 = .ok (.aload_n 0, 1) := by decide +kernel
theorem dX10_runs_1 : decode cX10_runs 1 = .ok (.iconst 0, 1) := by decide +kernel
theorem dX10_runs_2 : decode cX10_runs 2 = .ok (.putfield 1, 3) := by decide +kernel
theorem dX10_runs_5 : decode cX10_runs 5 = .ok (.aload_n 0, 1) := by decide +kernel
theorem dX10_runs_6 : decode cX10_runs 6 = .ok (.sipush 940, 3) := by decide +kernel
theorem dX10_runs_9 : decode cX10_runs 9 = .ok (.invokevirtual 248, 3) := by decide +kernel
theorem dX10_runs_12 : decode cX10_runs 12 = .ok (.aload_n 0, 1) := by decide +kernel
theorem dX10_runs_13 : decode cX10_runs 13 = .ok (.invokevirtual 281, 3) := by decide +kernel
theorem dX10_runs_16 : decode cX10_runs 16 = .ok (.ifCond .eq 11, 3) := by decide +kernel
theorem dX10_runs_19 : decode cX10_runs 19 = .ok (.aload_n 0, 1) := by decide +kernel
theorem dX10_runs_20 : decode cX10_runs 20 = .ok (.getfield 18, 3) := by decide +kernel
theorem dX10_runs_23 : decode cX10_runs 23 = .ok (.iconst 4, 1) := by decide +kernel
theorem dX10_runs_24 : decode cX10_runs 24 = .ok (.if_icmp .eq 5, 3) := by decide +kernel
theorem dX10_runs_27 : decode cX10_runs 27 = .ok (.iconst (-1), 1) := by decide +kernel
theorem dX10_runs_28 : decode cX10_runs 28 = .ok (.ireturn, 1) := by decide +kernel
theorem dX10_runs_29 : decode cX10_runs 29 = .ok (.iconst 0, 1) := by decide +kernel
theorem dX10_runs_30 : decode cX10_runs 30 = .ok (.istore_n 1, 1) := by decide +kernel
theorem dX10_runs_31 : decode cX10_runs 31 = .ok (.iconst 0, 1) := by decide +kernel
theorem dX10_runs_32 : decode cX10_runs 32 = .ok (.istore_n 2, 1) := by decide +kernel
theorem dX10_runs_33 : decode cX10_runs 33 = .ok (.iload_n 2, 1) := by decide +kernel
theorem dX10_runs_34 : decode cX10_runs 34 = .ok (.iconst 4, 1) := by decide +kernel
theorem dX10_runs_35 : decode cX10_runs 35 = .ok (.if_icmp .ge 49, 3) := by decide +kernel
theorem dX10_runs_38 : decode cX10_runs 38 = .ok (.aload_n 0, 1) := by decide +kernel
theorem dX10_runs_39 : decode cX10_runs 39 = .ok (.iload_n 2, 1) := by decide +kernel
theorem dX10_runs_40 : decode cX10_runs 40 = .ok (.invokevirtual 435, 3) := by decide +kernel
theorem dX10_runs_43 : decode cX10_runs 43 = .ok (.iconst 1, 1) := by decide +kernel
theorem dX10_runs_44 : decode cX10_runs 44 = .ok (.bipush 60, 2) := by decide +kernel
theorem dX10_runs_46 : decode cX10_runs 46 = .ok (.invokestatic 211, 3) := by decide +kernel
theorem dX10_runs_49 : decode cX10_runs 49 = .ok (.ifCond .eq 17, 3) := by decide +kernel
theorem dX10_runs_52 : decode cX10_runs 52 = .ok (.aload_n 0, 1) := by decide +kernel
theorem dX10_runs_53 : decode cX10_runs 53 = .ok (.bipush 115, 2) := by decide +kernel
theorem dX10_runs_55 : decode cX10_runs 55 = .ok (.aload_n 0, 1) := by decide +kernel
theorem dX10_runs_56 : decode cX10_runs 56 = .ok (.iload_n 2, 1) := by decide +kernel
theorem dX10_runs_57 : decode cX10_runs 57 = .ok (.invokevirtual 435, 3) := by decide +kernel
theorem dX10_runs_60 : decode cX10_runs 60 = .ok (.invokevirtual 429, 3) := by decide +kernel
theorem dX10_runs_63 : decode cX10_runs 63 = .ok (.goto 4, 3) := by decide +kernel
theorem dX10_runs_66 : decode cX10_runs 66 = .ok (.iconst (-1), 1) := by decide +kernel
theorem dX10_runs_67 : decode cX10_runs 67 = .ok (.istore_n 3, 1) := by decide +kernel
theorem dX10_runs_68 : decode cX10_runs 68 = .ok (.iload_n 3, 1) := by decide +kernel
theorem dX10_runs_69 : decode cX10_runs 69 = .ok (.ifCond .ge 5, 3) := by decide +kernel
theorem dX10_runs_72 : decode cX10_runs 72 = .ok (.iconst (-1), 1) := by decide +kernel
theorem dX10_runs_73 : decode cX10_runs 73 = .ok (.ireturn, 1) := by decide +kernel
theorem dX10_runs_74 : decode cX10_runs 74 = .ok (.iload_n 1, 1) := by decide +kernel
theorem dX10_runs_75 : decode cX10_runs 75 = .ok (.iload_n 3, 1) := by decide +kernel
theorem dX10_runs_76 : decode cX10_runs 76 = .ok (.iadd, 1) := by decide +kernel
theorem dX10_runs_77 : decode cX10_runs 77 = .ok (.istore_n 1, 1) := by decide +kernel
theorem dX10_runs_78 : decode cX10_runs 78 = .ok (.iinc 2 1, 3) := by decide +kernel
theorem dX10_runs_81 : decode cX10_runs 81 = .ok (.goto (-48), 3) := by decide +kernel
theorem dX10_runs_84 : decode cX10_runs 84 = .ok (.iload_n 1, 1) := by decide +kernel
theorem dX10_runs_85 : decode cX10_runs 85 = .ok (.ireturn, 1) := by decide +kernel
theorem dX10_worth_0 : decode cX10_worth 0 = .ok (.aload_n 0, 1) := by decide +kernel
theorem dX10_worth_1 : decode cX10_worth 1 = .ok (.iconst 0, 1) := by decide +kernel
theorem dX10_worth_2 : decode cX10_worth 2 = .ok (.putfield 1, 3) := by decide +kernel
theorem dX10_worth_5 : decode cX10_worth 5 = .ok (.aload_n 0, 1) := by decide +kernel
theorem dX10_worth_6 : decode cX10_worth 6 = .ok (.invokevirtual 281, 3) := by decide +kernel
theorem dX10_worth_9 : decode cX10_worth 9 = .ok (.ifCond .eq 23, 3) := by decide +kernel
theorem dX10_worth_12 : decode cX10_worth 12 = .ok (.iload_n 1, 1) := by decide +kernel
theorem dX10_worth_13 : decode cX10_worth 13 = .ok (.iconst 1, 1) := by decide +kernel
theorem dX10_worth_14 : decode cX10_worth 14 = .ok (.bipush 60, 2) := by decide +kernel
theorem dX10_worth_16 : decode cX10_worth 16 = .ok (.invokestatic 211, 3) := by decide +kernel
theorem dX10_worth_19 : decode cX10_worth 19 = .ok (.ifCond .eq 13, 3) := by decide +kernel
theorem dX10_worth_22 : decode cX10_worth 22 = .ok (.iload_n 2, 1) := by decide +kernel
theorem dX10_worth_23 : decode cX10_worth 23 = .ok (.iconst 1, 1) := by decide +kernel
theorem dX10_worth_24 : decode cX10_worth 24 = .ok (.bipush 60, 2) := by decide +kernel
theorem dX10_worth_26 : decode cX10_worth 26 = .ok (.invokestatic 211, 3) := by decide +kernel
theorem dX10_worth_29 : decode cX10_worth 29 = .ok (.ifCond .ne 7, 3) := by decide +kernel
theorem dX10_worth_32 : decode cX10_worth 32 = .ok (.ldc_w 428, 3) := by decide +kernel
theorem dX10_worth_35 : decode cX10_worth 35 = .ok (.ireturn, 1) := by decide +kernel
theorem dX10_worth_36 : decode cX10_worth 36 = .ok (.aload_n 0, 1) := by decide +kernel
theorem dX10_worth_37 : decode cX10_worth 37 = .ok (.bipush 115, 2) := by decide +kernel
theorem dX10_worth_39 : decode cX10_worth 39 = .ok (.iload_n 2, 1) := by decide +kernel
theorem dX10_worth_40 : decode cX10_worth 40 = .ok (.invokevirtual 429, 3) := by decide +kernel
theorem dX10_worth_43 : decode cX10_worth 43 = .ok (.aload_n 0, 1) := by decide +kernel
theorem dX10_worth_44 : decode cX10_worth 44 = .ok (.bipush 115, 2) := by decide +kernel
theorem dX10_worth_46 : decode cX10_worth 46 = .ok (.iload_n 1, 1) := by decide +kernel
theorem dX10_worth_47 : decode cX10_worth 47 = .ok (.invokevirtual 429, 3) := by decide +kernel
theorem dX10_worth_50 : decode cX10_worth 50 = .ok (.invokestatic 432, 3) := by decide +kernel
theorem dX10_worth_53 : decode cX10_worth 53 = .ok (.ireturn, 1) := by decide +kernel
theorem dX10_keep_0 : decode cX10_keep 0 = .ok (.aload_n 0, 1) := by decide +kernel
theorem dX10_keep_1 : decode cX10_keep 1 = .ok (.iconst 0, 1) := by decide +kernel
theorem dX10_keep_2 : decode cX10_keep 2 = .ok (.putfield 1, 3) := by decide +kernel
theorem dX10_keep_5 : decode cX10_keep 5 = .ok (.aload_n 0, 1) := by decide +kernel
theorem dX10_keep_6 : decode cX10_keep 6 = .ok (.invokevirtual 281, 3) := by decide +kernel
theorem dX10_keep_9 : decode cX10_keep 9 = .ok (.ifCond .ne 5, 3) := by decide +kernel
theorem dX10_keep_12 : decode cX10_keep 12 = .ok (.iconst 0, 1) := by decide +kernel
theorem dX10_keep_13 : decode cX10_keep 13 = .ok (.ireturn, 1) := by decide +kernel
theorem dX10_keep_14 : decode cX10_keep 14 = .ok (.aload_n 0, 1) := by decide +kernel
theorem dX10_keep_15 : decode cX10_keep 15 = .ok (.getfield 37, 3) := by decide +kernel
theorem dX10_keep_18 : decode cX10_keep 18 = .ok (.sipush 128, 3) := by decide +kernel
theorem dX10_keep_21 : decode cX10_keep 21 = .ok (.iconst 1, 1) := by decide +kernel
theorem dX10_keep_22 : decode cX10_keep 22 = .ok (.iastore, 1) := by decide +kernel
theorem dX10_keep_23 : decode cX10_keep 23 = .ok (.iconst 0, 1) := by decide +kernel
theorem dX10_keep_24 : decode cX10_keep 24 = .ok (.istore_n 1, 1) := by decide +kernel
theorem dX10_keep_25 : decode cX10_keep 25 = .ok (.iload_n 1, 1) := by decide +kernel
theorem dX10_keep_26 : decode cX10_keep 26 = .ok (.bipush 24, 2) := by decide +kernel
theorem dX10_keep_28 : decode cX10_keep 28 = .ok (.if_icmp .ge 28, 3) := by decide +kernel
theorem dX10_keep_31 : decode cX10_keep 31 = .ok (.aload_n 0, 1) := by decide +kernel
theorem dX10_keep_32 : decode cX10_keep 32 = .ok (.getfield 37, 3) := by decide +kernel
theorem dX10_keep_35 : decode cX10_keep 35 = .ok (.sipush 129, 3) := by decide +kernel
theorem dX10_keep_38 : decode cX10_keep 38 = .ok (.iload_n 1, 1) := by decide +kernel
theorem dX10_keep_39 : decode cX10_keep 39 = .ok (.iadd, 1) := by decide +kernel
theorem dX10_keep_40 : decode cX10_keep 40 = .ok (.aload_n 0, 1) := by decide +kernel
theorem dX10_keep_41 : decode cX10_keep 41 = .ok (.getfield 37, 3) := by decide +kernel
theorem dX10_keep_44 : decode cX10_keep 44 = .ok (.bipush 104, 2) := by decide +kernel
theorem dX10_keep_46 : decode cX10_keep 46 = .ok (.iload_n 1, 1) := by decide +kernel
theorem dX10_keep_47 : decode cX10_keep 47 = .ok (.iadd, 1) := by decide +kernel
theorem dX10_keep_48 : decode cX10_keep 48 = .ok (.iaload, 1) := by decide +kernel
theorem dX10_keep_49 : decode cX10_keep 49 = .ok (.iastore, 1) := by decide +kernel
theorem dX10_keep_50 : decode cX10_keep 50 = .ok (.iinc 1 1, 3) := by decide +kernel
theorem dX10_keep_53 : decode cX10_keep 53 = .ok (.goto (-28), 3) := by decide +kernel
theorem dX10_keep_56 : decode cX10_keep 56 = .ok (.iconst 1, 1) := by decide +kernel
theorem dX10_keep_57 : decode cX10_keep 57 = .ok (.ireturn, 1) := by decide +kernel
theorem dX10_lost_0 : decode cX10_lost 0 = .ok (.aload_n 0, 1) := by decide +kernel
theorem dX10_lost_1 : decode cX10_lost 1 = .ok (.iconst 0, 1) := by decide +kernel
theorem dX10_lost_2 : decode cX10_lost 2 = .ok (.putfield 1, 3) := by decide +kernel
theorem dX10_lost_5 : decode cX10_lost 5 = .ok (.aload_n 0, 1) := by decide +kernel
theorem dX10_lost_6 : decode cX10_lost 6 = .ok (.invokevirtual 281, 3) := by decide +kernel
theorem dX10_lost_9 : decode cX10_lost 9 = .ok (.ifCond .eq 23, 3) := by decide +kernel
theorem dX10_lost_12 : decode cX10_lost 12 = .ok (.aload_n 0, 1) := by decide +kernel
theorem dX10_lost_13 : decode cX10_lost 13 = .ok (.getfield 37, 3) := by decide +kernel
theorem dX10_lost_16 : decode cX10_lost 16 = .ok (.sipush 128, 3) := by decide +kernel
theorem dX10_lost_19 : decode cX10_lost 19 = .ok (.iaload, 1) := by decide +kernel
theorem dX10_lost_20 : decode cX10_lost 20 = .ok (.ifCond .eq 12, 3) := by decide +kernel
theorem dX10_lost_23 : decode cX10_lost 23 = .ok (.iload_n 1, 1) := by decide +kernel
theorem dX10_lost_24 : decode cX10_lost 24 = .ok (.iconst 0, 1) := by decide +kernel
theorem dX10_lost_25 : decode cX10_lost 25 = .ok (.iconst 3, 1) := by decide +kernel
theorem dX10_lost_26 : decode cX10_lost 26 = .ok (.invokestatic 211, 3) := by decide +kernel
theorem dX10_lost_29 : decode cX10_lost 29 = .ok (.ifCond .ne 7, 3) := by decide +kernel
theorem dX10_lost_32 : decode cX10_lost 32 = .ok (.ldc_w 428, 3) := by decide +kernel
theorem dX10_lost_35 : decode cX10_lost 35 = .ok (.ireturn, 1) := by decide +kernel
theorem dX10_lost_36 : decode cX10_lost 36 = .ok (.aload_n 0, 1) := by decide +kernel
theorem dX10_lost_37 : decode cX10_lost 37 = .ok (.invokevirtual 368, 3) := by decide +kernel
theorem dX10_lost_40 : decode cX10_lost 40 = .ok (.istore_n 2, 1) := by decide +kernel
theorem dX10_lost_41 : decode cX10_lost 41 = .ok (.aload_n 0, 1) := by decide +kernel
theorem dX10_lost_42 : decode cX10_lost 42 = .ok (.getfield 314, 3) := by decide +kernel
theorem dX10_lost_45 : decode cX10_lost 45 = .ok (.istore_n 3, 1) := by decide +kernel
theorem dX10_lost_46 : decode cX10_lost 46 = .ok (.aload_n 0, 1) := by decide +kernel
theorem dX10_lost_47 : decode cX10_lost 47 = .ok (.getfield 337, 3) := by decide +kernel
theorem dX10_lost_50 : decode cX10_lost 50 = .ok (.istore 4, 2) := by decide +kernel
theorem dX10_lost_52 : decode cX10_lost 52 = .ok (.aload_n 0, 1) := by decide +kernel
theorem dX10_lost_53 : decode cX10_lost 53 = .ok (.invokevirtual 419, 3) := by decide +kernel
theorem dX10_lost_56 : decode cX10_lost 56 = .ok (.iconst 0, 1) := by decide +kernel
theorem dX10_lost_57 : decode cX10_lost 57 = .ok (.istore 5, 2) := by decide +kernel
theorem dX10_lost_59 : decode cX10_lost 59 = .ok (.iload 5, 2) := by decide +kernel
theorem dX10_lost_61 : decode cX10_lost 61 = .ok (.bipush 24, 2) := by decide +kernel
theorem dX10_lost_63 : decode cX10_lost 63 = .ok (.if_icmp .ge 30, 3) := by decide +kernel
theorem dX10_lost_66 : decode cX10_lost 66 = .ok (.aload_n 0, 1) := by decide +kernel
theorem dX10_lost_67 : decode cX10_lost 67 = .ok (.getfield 37, 3) := by decide +kernel
theorem dX10_lost_70 : decode cX10_lost 70 = .ok (.bipush 104, 2) := by decide +kernel
theorem dX10_lost_72 : decode cX10_lost 72 = .ok (.iload 5, 2) := by decide +kernel
theorem dX10_lost_74 : decode cX10_lost 74 = .ok (.iadd, 1) := by decide +kernel
theorem dX10_lost_75 : decode cX10_lost 75 = .ok (.aload_n 0, 1) := by decide +kernel
theorem dX10_lost_76 : decode cX10_lost 76 = .ok (.getfield 37, 3) := by decide +kernel
theorem dX10_lost_79 : decode cX10_lost 79 = .ok (.sipush 129, 3) := by decide +kernel
theorem dX10_lost_82 : decode cX10_lost 82 = .ok (.iload 5, 2) := by decide +kernel
theorem dX10_lost_84 : decode cX10_lost 84 = .ok (.iadd, 1) := by decide +kernel
theorem dX10_lost_85 : decode cX10_lost 85 = .ok (.iaload, 1) := by decide +kernel
theorem dX10_lost_86 : decode cX10_lost 86 = .ok (.iastore, 1) := by decide +kernel
theorem dX10_lost_87 : decode cX10_lost 87 = .ok (.iinc 5 1, 3) := by decide +kernel
theorem dX10_lost_90 : decode cX10_lost 90 = .ok (.goto (-31), 3) := by decide +kernel
theorem dX10_lost_93 : decode cX10_lost 93 = .ok (.aload_n 0, 1) := by decide +kernel
theorem dX10_lost_94 : decode cX10_lost 94 = .ok (.invokevirtual 368, 3) := by decide +kernel
theorem dX10_lost_97 : decode cX10_lost 97 = .ok (.istore 5, 2) := by decide +kernel
theorem dX10_lost_99 : decode cX10_lost 99 = .ok (.aload_n 0, 1) := by decide +kernel
theorem dX10_lost_100 : decode cX10_lost 100 = .ok (.getfield 314, 3) := by decide +kernel
theorem dX10_lost_103 : decode cX10_lost 103 = .ok (.istore 6, 2) := by decide +kernel
theorem dX10_lost_105 : decode cX10_lost 105 = .ok (.aload_n 0, 1) := by decide +kernel
theorem dX10_lost_106 : decode cX10_lost 106 = .ok (.iload 4, 2) := by decide +kernel
theorem dX10_lost_108 : decode cX10_lost 108 = .ok (.aload_n 0, 1) := by decide +kernel
theorem dX10_lost_109 : decode cX10_lost 109 = .ok (.invokevirtual 343, 3) := by decide +kernel
theorem dX10_lost_112 : decode cX10_lost 112 = .ok (.invokevirtual 365, 3) := by decide +kernel
theorem dX10_lost_115 : decode cX10_lost 115 = .ok (.istore 7, 2) := by decide +kernel
theorem dX10_lost_117 : decode cX10_lost 117 = .ok (.aload_n 0, 1) := by decide +kernel
theorem dX10_lost_118 : decode cX10_lost 118 = .ok (.invokevirtual 425, 3) := by decide +kernel
theorem dX10_lost_121 : decode cX10_lost 121 = .ok (.iload_n 2, 1) := by decide +kernel
theorem dX10_lost_122 : decode cX10_lost 122 = .ok (.ifCond .lt 13, 3) := by decide +kernel
theorem dX10_lost_125 : decode cX10_lost 125 = .ok (.iload 5, 2) := by decide +kernel
theorem dX10_lost_127 : decode cX10_lost 127 = .ok (.ifCond .lt 8, 3) := by decide +kernel
theorem dX10_lost_130 : decode cX10_lost 130 = .ok (.iload 7, 2) := by decide +kernel
theorem dX10_lost_132 : decode cX10_lost 132 = .ok (.ifCond .ge 7, 3) := by decide +kernel
theorem dX10_lost_135 : decode cX10_lost 135 = .ok (.ldc_w 428, 3) := by decide +kernel
theorem dX10_lost_138 : decode cX10_lost 138 = .ok (.ireturn, 1) := by decide +kernel
theorem dX10_lost_139 : decode cX10_lost 139 = .ok (.iload_n 2, 1) := by decide +kernel
theorem dX10_lost_140 : decode cX10_lost 140 = .ok (.iload 5, 2) := by decide +kernel
theorem dX10_lost_142 : decode cX10_lost 142 = .ok (.isub, 1) := by decide +kernel
theorem dX10_lost_143 : decode cX10_lost 143 = .ok (.istore 8, 2) := by decide +kernel
theorem dX10_lost_145 : decode cX10_lost 145 = .ok (.iload_n 3, 1) := by decide +kernel
theorem dX10_lost_146 : decode cX10_lost 146 = .ok (.iload 6, 2) := by decide +kernel
theorem dX10_lost_148 : decode cX10_lost 148 = .ok (.isub, 1) := by decide +kernel
theorem dX10_lost_149 : decode cX10_lost 149 = .ok (.istore 9, 2) := by decide +kernel
theorem dX10_lost_151 : decode cX10_lost 151 = .ok (.iload 7, 2) := by decide +kernel
theorem dX10_lost_153 : decode cX10_lost 153 = .ok (.iload 5, 2) := by decide +kernel
theorem dX10_lost_155 : decode cX10_lost 155 = .ok (.iload 6, 2) := by decide +kernel
theorem dX10_lost_157 : decode cX10_lost 157 = .ok (.isub, 1) := by decide +kernel
theorem dX10_lost_158 : decode cX10_lost 158 = .ok (.isub, 1) := by decide +kernel
theorem dX10_lost_159 : decode cX10_lost 159 = .ok (.istore 10, 2) := by decide +kernel
theorem dX10_lost_161 : decode cX10_lost 161 = .ok (.iload_n 1, 1) := by decide +kernel
theorem dX10_lost_162 : decode cX10_lost 162 = .ok (.ifCond .ne 8, 3) := by decide +kernel
theorem dX10_lost_165 : decode cX10_lost 165 = .ok (.iload 9, 2) := by decide +kernel
theorem dX10_lost_167 : decode cX10_lost 167 = .ok (.goto 31, 3) := by decide +kernel
theorem dX10_lost_170 : decode cX10_lost 170 = .ok (.iload_n 1, 1) := by decide +kernel
theorem dX10_lost_171 : decode cX10_lost 171 = .ok (.iconst 1, 1) := by decide +kernel
theorem dX10_lost_172 : decode cX10_lost 172 = .ok (.if_icmp .ne 8, 3) := by decide +kernel
theorem dX10_lost_175 : decode cX10_lost 175 = .ok (.iload 10, 2) := by decide +kernel
theorem dX10_lost_177 : decode cX10_lost 177 = .ok (.goto 21, 3) := by decide +kernel
theorem dX10_lost_180 : decode cX10_lost 180 = .ok (.iload_n 1, 1) := by decide +kernel
theorem dX10_lost_181 : decode cX10_lost 181 = .ok (.iconst 2, 1) := by decide +kernel
theorem dX10_lost_182 : decode cX10_lost 182 = .ok (.if_icmp .ne 14, 3) := by decide +kernel
theorem dX10_lost_185 : decode cX10_lost 185 = .ok (.iload 8, 2) := by decide +kernel
theorem dX10_lost_187 : decode cX10_lost 187 = .ok (.iload 9, 2) := by decide +kernel
theorem dX10_lost_189 : decode cX10_lost 189 = .ok (.isub, 1) := by decide +kernel
theorem dX10_lost_190 : decode cX10_lost 190 = .ok (.iload 10, 2) := by decide +kernel
theorem dX10_lost_192 : decode cX10_lost 192 = .ok (.isub, 1) := by decide +kernel
theorem dX10_lost_193 : decode cX10_lost 193 = .ok (.goto 5, 3) := by decide +kernel
theorem dX10_lost_196 : decode cX10_lost 196 = .ok (.iload 8, 2) := by decide +kernel
theorem dX10_lost_198 : decode cX10_lost 198 = .ok (.ireturn, 1) := by decide +kernel
theorem dX10_touch_0 : decode cX10_touch 0 = .ok (.aload_n 0, 1) := by decide +kernel
theorem dX10_touch_1 : decode cX10_touch 1 = .ok (.iconst 0, 1) := by decide +kernel
theorem dX10_touch_2 : decode cX10_touch 2 = .ok (.putfield 1, 3) := by decide +kernel
theorem dX10_touch_5 : decode cX10_touch 5 = .ok (.aload_n 0, 1) := by decide +kernel
theorem dX10_touch_6 : decode cX10_touch 6 = .ok (.invokevirtual 281, 3) := by decide +kernel
theorem dX10_touch_9 : decode cX10_touch 9 = .ok (.ifCond .eq 21, 3) := by decide +kernel
theorem dX10_touch_12 : decode cX10_touch 12 = .ok (.aload_n 0, 1) := by decide +kernel
theorem dX10_touch_13 : decode cX10_touch 13 = .ok (.iload_n 1, 1) := by decide +kernel
theorem dX10_touch_14 : decode cX10_touch 14 = .ok (.invokevirtual 292, 3) := by decide +kernel
theorem dX10_touch_17 : decode cX10_touch 17 = .ok (.ifCond .eq 13, 3) := by decide +kernel
theorem dX10_touch_20 : decode cX10_touch 20 = .ok (.iload_n 2, 1) := by decide +kernel
theorem dX10_touch_21 : decode cX10_touch 21 = .ok (.iconst 1, 1) := by decide +kernel
theorem dX10_touch_22 : decode cX10_touch 22 = .ok (.bipush 99, 2) := by decide +kernel
theorem dX10_touch_24 : decode cX10_touch 24 = .ok (.invokestatic 211, 3) := by decide +kernel
theorem dX10_touch_27 : decode cX10_touch 27 = .ok (.ifCond .ne 7, 3) := by decide +kernel
theorem dX10_touch_30 : decode cX10_touch 30 = .ok (.ldc_w 428, 3) := by decide +kernel
theorem dX10_touch_33 : decode cX10_touch 33 = .ok (.ireturn, 1) := by decide +kernel
theorem dX10_touch_34 : decode cX10_touch 34 = .ok (.aload_n 0, 1) := by decide +kernel
theorem dX10_touch_35 : decode cX10_touch 35 = .ok (.invokevirtual 368, 3) := by decide +kernel
theorem dX10_touch_38 : decode cX10_touch 38 = .ok (.istore_n 3, 1) := by decide +kernel
theorem dX10_touch_39 : decode cX10_touch 39 = .ok (.aload_n 0, 1) := by decide +kernel
theorem dX10_touch_40 : decode cX10_touch 40 = .ok (.iload_n 1, 1) := by decide +kernel
theorem dX10_touch_41 : decode cX10_touch 41 = .ok (.putfield 66, 3) := by decide +kernel
theorem dX10_touch_44 : decode cX10_touch 44 = .ok (.aload_n 0, 1) := by decide +kernel
theorem dX10_touch_45 : decode cX10_touch 45 = .ok (.iload_n 2, 1) := by decide +kernel
theorem dX10_touch_46 : decode cX10_touch 46 = .ok (.putfield 362, 3) := by decide +kernel
theorem dX10_touch_49 : decode cX10_touch 49 = .ok (.aload_n 0, 1) := by decide +kernel
theorem dX10_touch_50 : decode cX10_touch 50 = .ok (.invokevirtual 368, 3) := by decide +kernel
theorem dX10_touch_53 : decode cX10_touch 53 = .ok (.istore 4, 2) := by decide +kernel
theorem dX10_touch_55 : decode cX10_touch 55 = .ok (.aload_n 0, 1) := by decide +kernel
theorem dX10_touch_56 : decode cX10_touch 56 = .ok (.iconst (-1), 1) := by decide +kernel
theorem dX10_touch_57 : decode cX10_touch 57 = .ok (.putfield 66, 3) := by decide +kernel
theorem dX10_touch_60 : decode cX10_touch 60 = .ok (.iload 4, 2) := by decide +kernel
theorem dX10_touch_62 : decode cX10_touch 62 = .ok (.iload_n 3, 1) := by decide +kernel
theorem dX10_touch_63 : decode cX10_touch 63 = .ok (.invokestatic 432, 3) := by decide +kernel
theorem dX10_touch_66 : decode cX10_touch 66 = .ok (.ireturn, 1) := by decide +kernel
theorem dX10_totalBy_0 : decode cX10_totalBy 0 = .ok (.aload_n 0, 1) := by decide +kernel
theorem dX10_totalBy_1 : decode cX10_totalBy 1 = .ok (.iload_n 1, 1) := by decide +kernel
theorem dX10_totalBy_2 : decode cX10_totalBy 2 = .ok (.putfield 304, 3) := by decide +kernel
theorem dX10_totalBy_5 : decode cX10_totalBy 5 = .ok (.aload_n 0, 1) := by decide +kernel
theorem dX10_totalBy_6 : decode cX10_totalBy 6 = .ok (.iconst 1, 1) := by decide +kernel
theorem dX10_totalBy_7 : decode cX10_totalBy 7 = .ok (.putfield 330, 3) := by decide +kernel
theorem dX10_totalBy_10 : decode cX10_totalBy 10 = .ok (.aload_n 0, 1) := by decide +kernel
theorem dX10_totalBy_11 : decode cX10_totalBy 11 = .ok (.invokevirtual 368, 3) := by decide +kernel
theorem dX10_totalBy_14 : decode cX10_totalBy 14 = .ok (.istore_n 2, 1) := by decide +kernel
theorem dX10_totalBy_15 : decode cX10_totalBy 15 = .ok (.aload_n 0, 1) := by decide +kernel
theorem dX10_totalBy_16 : decode cX10_totalBy 16 = .ok (.iconst 0, 1) := by decide +kernel
theorem dX10_totalBy_17 : decode cX10_totalBy 17 = .ok (.putfield 330, 3) := by decide +kernel
theorem dX10_totalBy_20 : decode cX10_totalBy 20 = .ok (.iload_n 2, 1) := by decide +kernel
theorem dX10_totalBy_21 : decode cX10_totalBy 21 = .ok (.ireturn, 1) := by decide +kernel
theorem dX10_drawn_0 : decode cX10_drawn 0 = .ok (.aload_n 0, 1) := by decide +kernel
theorem dX10_drawn_1 : decode cX10_drawn 1 = .ok (.iconst 0, 1) := by decide +kernel
theorem dX10_drawn_2 : decode cX10_drawn 2 = .ok (.putfield 1, 3) := by decide +kernel
theorem dX10_drawn_5 : decode cX10_drawn 5 = .ok (.aload_n 0, 1) := by decide +kernel
theorem dX10_drawn_6 : decode cX10_drawn 6 = .ok (.invokevirtual 281, 3) := by decide +kernel
theorem dX10_drawn_9 : decode cX10_drawn 9 = .ok (.ifCond .eq 11, 3) := by decide +kernel
theorem dX10_drawn_12 : decode cX10_drawn 12 = .ok (.aload_n 0, 1) := by decide +kernel
theorem dX10_drawn_13 : decode cX10_drawn 13 = .ok (.iload_n 1, 1) := by decide +kernel
theorem dX10_drawn_14 : decode cX10_drawn 14 = .ok (.invokevirtual 438, 3) := by decide +kernel
theorem dX10_drawn_17 : decode cX10_drawn 17 = .ok (.goto 4, 3) := by decide +kernel
theorem dX10_drawn_20 : decode cX10_drawn 20 = .ok (.iconst (-1), 1) := by decide +kernel
theorem dX10_drawn_21 : decode cX10_drawn 21 = .ok (.ireturn, 1) := by decide +kernel
theorem dX10_odds_0 : decode cX10_odds 0 = .ok (.aload_n 0, 1) := by decide +kernel
theorem dX10_odds_1 : decode cX10_odds 1 = .ok (.iconst 0, 1) := by decide +kernel
theorem dX10_odds_2 : decode cX10_odds 2 = .ok (.putfield 1, 3) := by decide +kernel
theorem dX10_odds_5 : decode cX10_odds 5 = .ok (.aload_n 0, 1) := by decide +kernel
theorem dX10_odds_6 : decode cX10_odds 6 = .ok (.invokevirtual 281, 3) := by decide +kernel
theorem dX10_odds_9 : decode cX10_odds 9 = .ok (.ifCond .eq 13, 3) := by decide +kernel
theorem dX10_odds_12 : decode cX10_odds 12 = .ok (.iload_n 1, 1) := by decide +kernel
theorem dX10_odds_13 : decode cX10_odds 13 = .ok (.iconst 1, 1) := by decide +kernel
theorem dX10_odds_14 : decode cX10_odds 14 = .ok (.bipush 60, 2) := by decide +kernel
theorem dX10_odds_16 : decode cX10_odds 16 = .ok (.invokestatic 211, 3) := by decide +kernel
theorem dX10_odds_19 : decode cX10_odds 19 = .ok (.ifCond .ne 5, 3) := by decide +kernel
theorem dX10_odds_22 : decode cX10_odds 22 = .ok (.iconst (-1), 1) := by decide +kernel
theorem dX10_odds_23 : decode cX10_odds 23 = .ok (.ireturn, 1) := by decide +kernel
theorem dX10_odds_24 : decode cX10_odds 24 = .ok (.iconst 0, 1) := by decide +kernel
theorem dX10_odds_25 : decode cX10_odds 25 = .ok (.istore 4, 2) := by decide +kernel
theorem dX10_odds_27 : decode cX10_odds 27 = .ok (.iconst 0, 1) := by decide +kernel
theorem dX10_odds_28 : decode cX10_odds 28 = .ok (.istore 5, 2) := by decide +kernel
theorem dX10_odds_30 : decode cX10_odds 30 = .ok (.iload 5, 2) := by decide +kernel
theorem dX10_odds_32 : decode cX10_odds 32 = .ok (.iload_n 1, 1) := by decide +kernel
theorem dX10_odds_33 : decode cX10_odds 33 = .ok (.if_icmp .ge 40, 3) := by decide +kernel
theorem dX10_odds_36 : decode cX10_odds 36 = .ok (.aload_n 0, 1) := by decide +kernel
theorem dX10_odds_37 : decode cX10_odds 37 = .ok (.iload_n 2, 1) := by decide +kernel
theorem dX10_odds_38 : decode cX10_odds 38 = .ok (.iload 5, 2) := by decide +kernel
theorem dX10_odds_40 : decode cX10_odds 40 = .ok (.iadd, 1) := by decide +kernel
theorem dX10_odds_41 : decode cX10_odds 41 = .ok (.invokevirtual 438, 3) := by decide +kernel
theorem dX10_odds_44 : decode cX10_odds 44 = .ok (.istore 6, 2) := by decide +kernel
theorem dX10_odds_46 : decode cX10_odds 46 = .ok (.iload 4, 2) := by decide +kernel
theorem dX10_odds_48 : decode cX10_odds 48 = .ok (.iload 6, 2) := by decide +kernel
theorem dX10_odds_50 : decode cX10_odds 50 = .ok (.ifCond .lt 13, 3) := by decide +kernel
theorem dX10_odds_53 : decode cX10_odds 53 = .ok (.iload 6, 2) := by decide +kernel
theorem dX10_odds_55 : decode cX10_odds 55 = .ok (.iload_n 3, 1) := by decide +kernel
theorem dX10_odds_56 : decode cX10_odds 56 = .ok (.if_icmp .ge 7, 3) := by decide +kernel
theorem dX10_odds_59 : decode cX10_odds 59 = .ok (.iconst 1, 1) := by decide +kernel
theorem dX10_odds_60 : decode cX10_odds 60 = .ok (.goto 4, 3) := by decide +kernel
theorem dX10_odds_63 : decode cX10_odds 63 = .ok (.iconst 0, 1) := by decide +kernel
theorem dX10_odds_64 : decode cX10_odds 64 = .ok (.iadd, 1) := by decide +kernel
theorem dX10_odds_65 : decode cX10_odds 65 = .ok (.istore 4, 2) := by decide +kernel
theorem dX10_odds_67 : decode cX10_odds 67 = .ok (.iinc 5 1, 3) := by decide +kernel
theorem dX10_odds_70 : decode cX10_odds 70 = .ok (.goto (-40), 3) := by decide +kernel
theorem dX10_odds_73 : decode cX10_odds 73 = .ok (.iload 4, 2) := by decide +kernel
theorem dX10_odds_75 : decode cX10_odds 75 = .ok (.ireturn, 1) := by decide +kernel
theorem dX10_room_0 : decode cX10_room 0 = .ok (.aload_n 0, 1) := by decide +kernel
theorem dX10_room_1 : decode cX10_room 1 = .ok (.iconst 0, 1) := by decide +kernel
theorem dX10_room_2 : decode cX10_room 2 = .ok (.putfield 1, 3) := by decide +kernel
theorem dX10_room_5 : decode cX10_room 5 = .ok (.aload_n 0, 1) := by decide +kernel
theorem dX10_room_6 : decode cX10_room 6 = .ok (.invokevirtual 281, 3) := by decide +kernel
theorem dX10_room_9 : decode cX10_room 9 = .ok (.ifCond .ne 5, 3) := by decide +kernel
theorem dX10_room_12 : decode cX10_room 12 = .ok (.iconst (-1), 1) := by decide +kernel
theorem dX10_room_13 : decode cX10_room 13 = .ok (.ireturn, 1) := by decide +kernel
theorem dX10_room_14 : decode cX10_room 14 = .ok (.aload_n 0, 1) := by decide +kernel
theorem dX10_room_15 : decode cX10_room 15 = .ok (.invokevirtual 340, 3) := by decide +kernel
theorem dX10_room_18 : decode cX10_room 18 = .ok (.aload_n 0, 1) := by decide +kernel
theorem dX10_room_19 : decode cX10_room 19 = .ok (.getfield 37, 3) := by decide +kernel
theorem dX10_room_22 : decode cX10_room 22 = .ok (.iconst 2, 1) := by decide +kernel
theorem dX10_room_23 : decode cX10_room 23 = .ok (.iaload, 1) := by decide +kernel
theorem dX10_room_24 : decode cX10_room 24 = .ok (.aload_n 0, 1) := by decide +kernel
theorem dX10_room_25 : decode cX10_room 25 = .ok (.getfield 37, 3) := by decide +kernel
theorem dX10_room_28 : decode cX10_room 28 = .ok (.iconst 1, 1) := by decide +kernel
theorem dX10_room_29 : decode cX10_room 29 = .ok (.iaload, 1) := by decide +kernel
theorem dX10_room_30 : decode cX10_room 30 = .ok (.isub, 1) := by decide +kernel
theorem dX10_room_31 : decode cX10_room 31 = .ok (.aload_n 0, 1) := by decide +kernel
theorem dX10_room_32 : decode cX10_room 32 = .ok (.aload_n 0, 1) := by decide +kernel
theorem dX10_room_33 : decode cX10_room 33 = .ok (.getfield 317, 3) := by decide +kernel
theorem dX10_room_36 : decode cX10_room 36 = .ok (.invokevirtual 308, 3) := by decide +kernel
theorem dX10_room_39 : decode cX10_room 39 = .ok (.isub, 1) := by decide +kernel
theorem dX10_room_40 : decode cX10_room 40 = .ok (.istore_n 1, 1) := by decide +kernel
theorem dX10_room_41 : decode cX10_room 41 = .ok (.iload_n 1, 1) := by decide +kernel
theorem dX10_room_42 : decode cX10_room 42 = .ok (.ifCond .ge 7, 3) := by decide +kernel
theorem dX10_room_45 : decode cX10_room 45 = .ok (.iconst (-1), 1) := by decide +kernel
theorem dX10_room_46 : decode cX10_room 46 = .ok (.goto 9, 3) := by decide +kernel
theorem dX10_room_49 : decode cX10_room 49 = .ok (.iload_n 1, 1) := by decide +kernel
theorem dX10_room_50 : decode cX10_room 50 = .ok (.bipush 99, 2) := by decide +kernel
theorem dX10_room_52 : decode cX10_room 52 = .ok (.invokestatic 27, 3) := by decide +kernel
theorem dX10_room_55 : decode cX10_room 55 = .ok (.ireturn, 1) := by decide +kernel
theorem dX10_code_0 : decode cX10_code 0 = .ok (.aload_n 0, 1) := by decide +kernel
theorem dX10_code_1 : decode cX10_code 1 = .ok (.getfield 44, 3) := by decide +kernel
theorem dX10_code_4 : decode cX10_code 4 = .ok (.iconst 3, 1) := by decide +kernel
theorem dX10_code_5 : decode cX10_code 5 = .ok (.aload_n 0, 1) := by decide +kernel
theorem dX10_code_6 : decode cX10_code 6 = .ok (.getfield 441, 3) := by decide +kernel
theorem dX10_code_9 : decode cX10_code 9 = .ok (.imul, 1) := by decide +kernel
theorem dX10_code_10 : decode cX10_code 10 = .ok (.iload_n 1, 1) := by decide +kernel
theorem dX10_code_11 : decode cX10_code 11 = .ok (.iastore, 1) := by decide +kernel
theorem dX10_code_12 : decode cX10_code 12 = .ok (.aload_n 0, 1) := by decide +kernel
theorem dX10_code_13 : decode cX10_code 13 = .ok (.getfield 44, 3) := by decide +kernel
theorem dX10_code_16 : decode cX10_code 16 = .ok (.iconst 3, 1) := by decide +kernel
theorem dX10_code_17 : decode cX10_code 17 = .ok (.aload_n 0, 1) := by decide +kernel
theorem dX10_code_18 : decode cX10_code 18 = .ok (.getfield 441, 3) := by decide +kernel
theorem dX10_code_21 : decode cX10_code 21 = .ok (.imul, 1) := by decide +kernel
theorem dX10_code_22 : decode cX10_code 22 = .ok (.iconst 1, 1) := by decide +kernel
theorem dX10_code_23 : decode cX10_code 23 = .ok (.iadd, 1) := by decide +kernel
theorem dX10_code_24 : decode cX10_code 24 = .ok (.iload_n 2, 1) := by decide +kernel
theorem dX10_code_25 : decode cX10_code 25 = .ok (.iastore, 1) := by decide +kernel
theorem dX10_code_26 : decode cX10_code 26 = .ok (.aload_n 0, 1) := by decide +kernel
theorem dX10_code_27 : decode cX10_code 27 = .ok (.getfield 44, 3) := by decide +kernel
theorem dX10_code_30 : decode cX10_code 30 = .ok (.iconst 3, 1) := by decide +kernel
theorem dX10_code_31 : decode cX10_code 31 = .ok (.aload_n 0, 1) := by decide +kernel
theorem dX10_code_32 : decode cX10_code 32 = .ok (.getfield 441, 3) := by decide +kernel
theorem dX10_code_35 : decode cX10_code 35 = .ok (.imul, 1) := by decide +kernel
theorem dX10_code_36 : decode cX10_code 36 = .ok (.iconst 2, 1) := by decide +kernel
theorem dX10_code_37 : decode cX10_code 37 = .ok (.iadd, 1) := by decide +kernel
theorem dX10_code_38 : decode cX10_code 38 = .ok (.iload_n 3, 1) := by decide +kernel
theorem dX10_code_39 : decode cX10_code 39 = .ok (.iastore, 1) := by decide +kernel
theorem dX10_code_40 : decode cX10_code 40 = .ok (.aload_n 0, 1) := by decide +kernel
theorem dX10_code_41 : decode cX10_code 41 = .ok (.dup, 1) := by decide +kernel
theorem dX10_code_42 : decode cX10_code 42 = .ok (.getfield 441, 3) := by decide +kernel
theorem dX10_code_45 : decode cX10_code 45 = .ok (.iconst 1, 1) := by decide +kernel
theorem dX10_code_46 : decode cX10_code 46 = .ok (.iadd, 1) := by decide +kernel
theorem dX10_code_47 : decode cX10_code 47 = .ok (.putfield 441, 3) := by decide +kernel
theorem dX10_code_50 : decode cX10_code 50 = .ok (.return_, 1) := by decide +kernel
theorem dX10_joins_0 : decode cX10_joins 0 = .ok (.aload_n 0, 1) := by decide +kernel
theorem dX10_joins_1 : decode cX10_joins 1 = .ok (.getfield 444, 3) := by decide +kernel
theorem dX10_joins_4 : decode cX10_joins 4 = .ok (.ifCond .le 69, 3) := by decide +kernel
theorem dX10_joins_7 : decode cX10_joins 7 = .ok (.aload_n 0, 1) := by decide +kernel
theorem dX10_joins_8 : decode cX10_joins 8 = .ok (.getfield 104, 3) := by decide +kernel
theorem dX10_joins_11 : decode cX10_joins 11 = .ok (.aload_n 0, 1) := by decide +kernel
theorem dX10_joins_12 : decode cX10_joins 12 = .ok (.getfield 444, 3) := by decide +kernel
theorem dX10_joins_15 : decode cX10_joins 15 = .ok (.iconst 1, 1) := by decide +kernel
theorem dX10_joins_16 : decode cX10_joins 16 = .ok (.isub, 1) := by decide +kernel
theorem dX10_joins_17 : decode cX10_joins 17 = .ok (.iaload, 1) := by decide +kernel
theorem dX10_joins_18 : decode cX10_joins 18 = .ok (.bipush 21, 2) := by decide +kernel
theorem dX10_joins_20 : decode cX10_joins 20 = .ok (.if_icmp .eq 25, 3) := by decide +kernel
theorem dX10_joins_23 : decode cX10_joins 23 = .ok (.aload_n 0, 1) := by decide +kernel
theorem dX10_joins_24 : decode cX10_joins 24 = .ok (.getfield 104, 3) := by decide +kernel
theorem dX10_joins_27 : decode cX10_joins 27 = .ok (.aload_n 0, 1) := by decide +kernel
theorem dX10_joins_28 : decode cX10_joins 28 = .ok (.getfield 444, 3) := by decide +kernel
theorem dX10_joins_31 : decode cX10_joins 31 = .ok (.iconst 1, 1) := by decide +kernel
theorem dX10_joins_32 : decode cX10_joins 32 = .ok (.isub, 1) := by decide +kernel
theorem dX10_joins_33 : decode cX10_joins 33 = .ok (.iaload, 1) := by decide +kernel
theorem dX10_joins_34 : decode cX10_joins 34 = .ok (.bipush 22, 2) := by decide +kernel
theorem dX10_joins_36 : decode cX10_joins 36 = .ok (.if_icmp .ne 37, 3) := by decide +kernel
theorem dX10_joins_39 : decode cX10_joins 39 = .ok (.iload_n 1, 1) := by decide +kernel
theorem dX10_joins_40 : decode cX10_joins 40 = .ok (.bipush 22, 2) := by decide +kernel
theorem dX10_joins_42 : decode cX10_joins 42 = .ok (.if_icmp .ne 31, 3) := by decide +kernel
theorem dX10_joins_45 : decode cX10_joins 45 = .ok (.aload_n 0, 1) := by decide +kernel
theorem dX10_joins_46 : decode cX10_joins 46 = .ok (.dup, 1) := by decide +kernel
theorem dX10_joins_47 : decode cX10_joins 47 = .ok (.getfield 444, 3) := by decide +kernel
theorem dX10_joins_50 : decode cX10_joins 50 = .ok (.iconst 1, 1) := by decide +kernel
theorem dX10_joins_51 : decode cX10_joins 51 = .ok (.isub, 1) := by decide +kernel
theorem dX10_joins_52 : decode cX10_joins 52 = .ok (.putfield 444, 3) := by decide +kernel
theorem dX10_joins_55 : decode cX10_joins 55 = .ok (.aload_n 0, 1) := by decide +kernel
theorem dX10_joins_56 : decode cX10_joins 56 = .ok (.aload_n 0, 1) := by decide +kernel
theorem dX10_joins_57 : decode cX10_joins 57 = .ok (.getfield 104, 3) := by decide +kernel
theorem dX10_joins_60 : decode cX10_joins 60 = .ok (.aload_n 0, 1) := by decide +kernel
theorem dX10_joins_61 : decode cX10_joins 61 = .ok (.getfield 444, 3) := by decide +kernel
theorem dX10_joins_64 : decode cX10_joins 64 = .ok (.iaload, 1) := by decide +kernel
theorem dX10_joins_65 : decode cX10_joins 65 = .ok (.iconst 0, 1) := by decide +kernel
theorem dX10_joins_66 : decode cX10_joins 66 = .ok (.iconst 0, 1) := by decide +kernel
theorem dX10_joins_67 : decode cX10_joins 67 = .ok (.invokevirtual 447, 3) := by decide +kernel
theorem dX10_joins_70 : decode cX10_joins 70 = .ok (.goto (-70), 3) := by decide +kernel
theorem dX10_joins_73 : decode cX10_joins 73 = .ok (.return_, 1) := by decide +kernel
theorem dX10_nots_0 : decode cX10_nots 0 = .ok (.aload_n 0, 1) := by decide +kernel
theorem dX10_nots_1 : decode cX10_nots 1 = .ok (.getfield 444, 3) := by decide +kernel
theorem dX10_nots_4 : decode cX10_nots 4 = .ok (.ifCond .le 50, 3) := by decide +kernel
theorem dX10_nots_7 : decode cX10_nots 7 = .ok (.aload_n 0, 1) := by decide +kernel
theorem dX10_nots_8 : decode cX10_nots 8 = .ok (.getfield 104, 3) := by decide +kernel
theorem dX10_nots_11 : decode cX10_nots 11 = .ok (.aload_n 0, 1) := by decide +kernel
theorem dX10_nots_12 : decode cX10_nots 12 = .ok (.getfield 444, 3) := by decide +kernel
theorem dX10_nots_15 : decode cX10_nots 15 = .ok (.iconst 1, 1) := by decide +kernel
theorem dX10_nots_16 : decode cX10_nots 16 = .ok (.isub, 1) := by decide +kernel
theorem dX10_nots_17 : decode cX10_nots 17 = .ok (.iaload, 1) := by decide +kernel
theorem dX10_nots_18 : decode cX10_nots 18 = .ok (.bipush 20, 2) := by decide +kernel
theorem dX10_nots_20 : decode cX10_nots 20 = .ok (.if_icmp .ne 34, 3) := by decide +kernel
theorem dX10_nots_23 : decode cX10_nots 23 = .ok (.aload_n 0, 1) := by decide +kernel
theorem dX10_nots_24 : decode cX10_nots 24 = .ok (.dup, 1) := by decide +kernel
theorem dX10_nots_25 : decode cX10_nots 25 = .ok (.getfield 444, 3) := by decide +kernel
theorem dX10_nots_28 : decode cX10_nots 28 = .ok (.iconst 1, 1) := by decide +kernel
theorem dX10_nots_29 : decode cX10_nots 29 = .ok (.isub, 1) := by decide +kernel
theorem dX10_nots_30 : decode cX10_nots 30 = .ok (.putfield 444, 3) := by decide +kernel
theorem dX10_nots_33 : decode cX10_nots 33 = .ok (.aload_n 0, 1) := by decide +kernel
theorem dX10_nots_34 : decode cX10_nots 34 = .ok (.dup, 1) := by decide +kernel
theorem dX10_nots_35 : decode cX10_nots 35 = .ok (.getfield 451, 3) := by decide +kernel
theorem dX10_nots_38 : decode cX10_nots 38 = .ok (.iconst 1, 1) := by decide +kernel
theorem dX10_nots_39 : decode cX10_nots 39 = .ok (.isub, 1) := by decide +kernel
theorem dX10_nots_40 : decode cX10_nots 40 = .ok (.putfield 451, 3) := by decide +kernel
theorem dX10_nots_43 : decode cX10_nots 43 = .ok (.aload_n 0, 1) := by decide +kernel
theorem dX10_nots_44 : decode cX10_nots 44 = .ok (.bipush 20, 2) := by decide +kernel
theorem dX10_nots_46 : decode cX10_nots 46 = .ok (.iconst 0, 1) := by decide +kernel
theorem dX10_nots_47 : decode cX10_nots 47 = .ok (.iconst 0, 1) := by decide +kernel
theorem dX10_nots_48 : decode cX10_nots 48 = .ok (.invokevirtual 447, 3) := by decide +kernel
theorem dX10_nots_51 : decode cX10_nots 51 = .ok (.goto (-51), 3) := by decide +kernel
theorem dX10_nots_54 : decode cX10_nots 54 = .ok (.return_, 1) := by decide +kernel
theorem dX10_leafOf_0 : decode cX10_leafOf 0 = .ok (.aload_n 0, 1) := by decide +kernel
theorem dX10_leafOf_1 : decode cX10_leafOf 1 = .ok (.ldc2_w 136, 3) := by decide +kernel
theorem dX10_leafOf_4 : decode cX10_leafOf 4 = .ok (.invokevirtual 225, 3) := by decide +kernel
theorem dX10_leafOf_7 : decode cX10_leafOf 7 = .ok (.ifCond .eq 7, 3) := by decide +kernel
theorem dX10_leafOf_10 : decode cX10_leafOf 10 = .ok (.iconst 0, 1) := by decide +kernel
theorem dX10_leafOf_11 : decode cX10_leafOf 11 = .ok (.goto 89, 3) := by decide +kernel
theorem dX10_leafOf_14 : decode cX10_leafOf 14 = .ok (.aload_n 0, 1) := by decide +kernel
theorem dX10_leafOf_15 : decode cX10_leafOf 15 = .ok (.ldc2_w 154, 3) := by decide +kernel
theorem dX10_leafOf_18 : decode cX10_leafOf 18 = .ok (.invokevirtual 225, 3) := by decide +kernel
theorem dX10_leafOf_21 : decode cX10_leafOf 21 = .ok (.ifCond .eq 7, 3) := by decide +kernel
theorem dX10_leafOf_24 : decode cX10_leafOf 24 = .ok (.iconst 1, 1) := by decide +kernel
theorem dX10_leafOf_25 : decode cX10_leafOf 25 = .ok (.goto 75, 3) := by decide +kernel
theorem dX10_leafOf_28 : decode cX10_leafOf 28 = .ok (.aload_n 0, 1) := by decide +kernel
theorem dX10_leafOf_29 : decode cX10_leafOf 29 = .ok (.ldc2_w 156, 3) := by decide +kernel
theorem dX10_leafOf_32 : decode cX10_leafOf 32 = .ok (.invokevirtual 225, 3) := by decide +kernel
theorem dX10_leafOf_35 : decode cX10_leafOf 35 = .ok (.ifCond .eq 7, 3) := by decide +kernel
theorem dX10_leafOf_38 : decode cX10_leafOf 38 = .ok (.iconst 2, 1) := by decide +kernel
theorem dX10_leafOf_39 : decode cX10_leafOf 39 = .ok (.goto 61, 3) := by decide +kernel
theorem dX10_leafOf_42 : decode cX10_leafOf 42 = .ok (.aload_n 0, 1) := by decide +kernel
theorem dX10_leafOf_43 : decode cX10_leafOf 43 = .ok (.ldc2_w 158, 3) := by decide +kernel
theorem dX10_leafOf_46 : decode cX10_leafOf 46 = .ok (.invokevirtual 225, 3) := by decide +kernel
theorem dX10_leafOf_49 : decode cX10_leafOf 49 = .ok (.ifCond .eq 7, 3) := by decide +kernel
theorem dX10_leafOf_52 : decode cX10_leafOf 52 = .ok (.iconst 3, 1) := by decide +kernel
theorem dX10_leafOf_53 : decode cX10_leafOf 53 = .ok (.goto 47, 3) := by decide +kernel
theorem dX10_leafOf_56 : decode cX10_leafOf 56 = .ok (.aload_n 0, 1) := by decide +kernel
theorem dX10_leafOf_57 : decode cX10_leafOf 57 = .ok (.ldc2_w 160, 3) := by decide +kernel
theorem dX10_leafOf_60 : decode cX10_leafOf 60 = .ok (.invokevirtual 225, 3) := by decide +kernel
theorem dX10_leafOf_63 : decode cX10_leafOf 63 = .ok (.ifCond .eq 7, 3) := by decide +kernel
theorem dX10_leafOf_66 : decode cX10_leafOf 66 = .ok (.iconst 4, 1) := by decide +kernel
theorem dX10_leafOf_67 : decode cX10_leafOf 67 = .ok (.goto 33, 3) := by decide +kernel
theorem dX10_leafOf_70 : decode cX10_leafOf 70 = .ok (.aload_n 0, 1) := by decide +kernel
theorem dX10_leafOf_71 : decode cX10_leafOf 71 = .ok (.ldc2_w 162, 3) := by decide +kernel
theorem dX10_leafOf_74 : decode cX10_leafOf 74 = .ok (.invokevirtual 225, 3) := by decide +kernel
theorem dX10_leafOf_77 : decode cX10_leafOf 77 = .ok (.ifCond .eq 7, 3) := by decide +kernel
theorem dX10_leafOf_80 : decode cX10_leafOf 80 = .ok (.iconst 5, 1) := by decide +kernel
theorem dX10_leafOf_81 : decode cX10_leafOf 81 = .ok (.goto 19, 3) := by decide +kernel
theorem dX10_leafOf_84 : decode cX10_leafOf 84 = .ok (.aload_n 0, 1) := by decide +kernel
theorem dX10_leafOf_85 : decode cX10_leafOf 85 = .ok (.ldc2_w 164, 3) := by decide +kernel
theorem dX10_leafOf_88 : decode cX10_leafOf 88 = .ok (.invokevirtual 225, 3) := by decide +kernel
theorem dX10_leafOf_91 : decode cX10_leafOf 91 = .ok (.ifCond .eq 8, 3) := by decide +kernel
theorem dX10_leafOf_94 : decode cX10_leafOf 94 = .ok (.bipush 6, 2) := by decide +kernel
theorem dX10_leafOf_96 : decode cX10_leafOf 96 = .ok (.goto 4, 3) := by decide +kernel
theorem dX10_leafOf_99 : decode cX10_leafOf 99 = .ok (.iconst (-1), 1) := by decide +kernel
theorem dX10_leafOf_100 : decode cX10_leafOf 100 = .ok (.ireturn, 1) := by decide +kernel
theorem dX10_operand_0 : decode cX10_operand 0 = .ok (.aload_n 0, 1) := by decide +kernel
theorem dX10_operand_1 : decode cX10_operand 1 = .ok (.ldc2_w 152, 3) := by decide +kernel
theorem dX10_operand_4 : decode cX10_operand 4 = .ok (.invokevirtual 225, 3) := by decide +kernel
theorem dX10_operand_7 : decode cX10_operand 7 = .ok (.istore_n 1, 1) := by decide +kernel
theorem dX10_operand_8 : decode cX10_operand 8 = .ok (.aload_n 0, 1) := by decide +kernel
theorem dX10_operand_9 : decode cX10_operand 9 = .ok (.bipush 40, 2) := by decide +kernel
theorem dX10_operand_11 : decode cX10_operand 11 = .ok (.invokevirtual 202, 3) := by decide +kernel
theorem dX10_operand_14 : decode cX10_operand 14 = .ok (.istore_n 2, 1) := by decide +kernel
theorem dX10_operand_15 : decode cX10_operand 15 = .ok (.aload_n 0, 1) := by decide +kernel
theorem dX10_operand_16 : decode cX10_operand 16 = .ok (.invokevirtual 454, 3) := by decide +kernel
theorem dX10_operand_19 : decode cX10_operand 19 = .ok (.istore_n 3, 1) := by decide +kernel
theorem dX10_operand_20 : decode cX10_operand 20 = .ok (.iload_n 1, 1) := by decide +kernel
theorem dX10_operand_21 : decode cX10_operand 21 = .ok (.ifCond .ne 17, 3) := by decide +kernel
theorem dX10_operand_24 : decode cX10_operand 24 = .ok (.iload_n 2, 1) := by decide +kernel
theorem dX10_operand_25 : decode cX10_operand 25 = .ok (.ifCond .ne 13, 3) := by decide +kernel
theorem dX10_operand_28 : decode cX10_operand 28 = .ok (.iload_n 3, 1) := by decide +kernel
theorem dX10_operand_29 : decode cX10_operand 29 = .ok (.ifCond .ge 9, 3) := by decide +kernel
theorem dX10_operand_32 : decode cX10_operand 32 = .ok (.aload_n 0, 1) := by decide +kernel
theorem dX10_operand_33 : decode cX10_operand 33 = .ok (.iconst 1, 1) := by decide +kernel
theorem dX10_operand_34 : decode cX10_operand 34 = .ok (.invokevirtual 205, 3) := by decide +kernel
theorem dX10_operand_37 : decode cX10_operand 37 = .ok (.ireturn, 1) := by decide +kernel
theorem dX10_operand_38 : decode cX10_operand 38 = .ok (.aload_n 0, 1) := by decide +kernel
theorem dX10_operand_39 : decode cX10_operand 39 = .ok (.getfield 457, 3) := by decide +kernel
theorem dX10_operand_42 : decode cX10_operand 42 = .ok (.bipush 20, 2) := by decide +kernel
theorem dX10_operand_44 : decode cX10_operand 44 = .ok (.if_icmp .eq 12, 3) := by decide +kernel
theorem dX10_operand_47 : decode cX10_operand 47 = .ok (.aload_n 0, 1) := by decide +kernel
theorem dX10_operand_48 : decode cX10_operand 48 = .ok (.getfield 451, 3) := by decide +kernel
theorem dX10_operand_51 : decode cX10_operand 51 = .ok (.bipush 8, 2) := by decide +kernel
theorem dX10_operand_53 : decode cX10_operand 53 = .ok (.if_icmp .le 9, 3) := by decide +kernel
theorem dX10_operand_56 : decode cX10_operand 56 = .ok (.aload_n 0, 1) := by decide +kernel
theorem dX10_operand_57 : decode cX10_operand 57 = .ok (.iconst 4, 1) := by decide +kernel
theorem dX10_operand_58 : decode cX10_operand 58 = .ok (.invokevirtual 205, 3) := by decide +kernel
theorem dX10_operand_61 : decode cX10_operand 61 = .ok (.ireturn, 1) := by decide +kernel
theorem dX10_operand_62 : decode cX10_operand 62 = .ok (.aload_n 0, 1) := by decide +kernel
theorem dX10_operand_63 : decode cX10_operand 63 = .ok (.dup, 1) := by decide +kernel
theorem dX10_operand_64 : decode cX10_operand 64 = .ok (.getfield 457, 3) := by decide +kernel
theorem dX10_operand_67 : decode cX10_operand 67 = .ok (.iconst 1, 1) := by decide +kernel
theorem dX10_operand_68 : decode cX10_operand 68 = .ok (.iadd, 1) := by decide +kernel
theorem dX10_operand_69 : decode cX10_operand 69 = .ok (.putfield 457, 3) := by decide +kernel
theorem dX10_operand_72 : decode cX10_operand 72 = .ok (.aload_n 0, 1) := by decide +kernel
theorem dX10_operand_73 : decode cX10_operand 73 = .ok (.invokevirtual 208, 3) := by decide +kernel
theorem dX10_operand_76 : decode cX10_operand 76 = .ok (.iload_n 1, 1) := by decide +kernel
theorem dX10_operand_77 : decode cX10_operand 77 = .ok (.ifCond .ne 7, 3) := by decide +kernel
theorem dX10_operand_80 : decode cX10_operand 80 = .ok (.iload_n 2, 1) := by decide +kernel
theorem dX10_operand_81 : decode cX10_operand 81 = .ok (.ifCond .eq 45, 3) := by decide +kernel
theorem dX10_operand_84 : decode cX10_operand 84 = .ok (.aload_n 0, 1) := by decide +kernel
theorem dX10_operand_85 : decode cX10_operand 85 = .ok (.getfield 104, 3) := by decide +kernel
theorem dX10_operand_88 : decode cX10_operand 88 = .ok (.aload_n 0, 1) := by decide +kernel
theorem dX10_operand_89 : decode cX10_operand 89 = .ok (.getfield 444, 3) := by decide +kernel
theorem dX10_operand_92 : decode cX10_operand 92 = .ok (.iload_n 1, 1) := by decide +kernel
theorem dX10_operand_93 : decode cX10_operand 93 = .ok (.ifCond .eq 8, 3) := by decide +kernel
theorem dX10_operand_96 : decode cX10_operand 96 = .ok (.bipush 20, 2) := by decide +kernel
theorem dX10_operand_98 : decode cX10_operand 98 = .ok (.goto 5, 3) := by decide +kernel
theorem dX10_operand_101 : decode cX10_operand 101 = .ok (.bipush 23, 2) := by decide +kernel
theorem dX10_operand_103 : decode cX10_operand 103 = .ok (.iastore, 1) := by decide +kernel
theorem dX10_operand_104 : decode cX10_operand 104 = .ok (.aload_n 0, 1) := by decide +kernel
theorem dX10_operand_105 : decode cX10_operand 105 = .ok (.dup, 1) := by decide +kernel
theorem dX10_operand_106 : decode cX10_operand 106 = .ok (.getfield 444, 3) := by decide +kernel
theorem dX10_operand_109 : decode cX10_operand 109 = .ok (.iconst 1, 1) := by decide +kernel
theorem dX10_operand_110 : decode cX10_operand 110 = .ok (.iadd, 1) := by decide +kernel
theorem dX10_operand_111 : decode cX10_operand 111 = .ok (.putfield 444, 3) := by decide +kernel
theorem dX10_operand_114 : decode cX10_operand 114 = .ok (.aload_n 0, 1) := by decide +kernel
theorem dX10_operand_115 : decode cX10_operand 115 = .ok (.dup, 1) := by decide +kernel
theorem dX10_operand_116 : decode cX10_operand 116 = .ok (.getfield 451, 3) := by decide +kernel
theorem dX10_operand_119 : decode cX10_operand 119 = .ok (.iconst 1, 1) := by decide +kernel
theorem dX10_operand_120 : decode cX10_operand 120 = .ok (.iadd, 1) := by decide +kernel
theorem dX10_operand_121 : decode cX10_operand 121 = .ok (.putfield 451, 3) := by decide +kernel
theorem dX10_operand_124 : decode cX10_operand 124 = .ok (.iconst 1, 1) := by decide +kernel
theorem dX10_operand_125 : decode cX10_operand 125 = .ok (.ireturn, 1) := by decide +kernel
theorem dX10_operand_126 : decode cX10_operand 126 = .ok (.aload_n 0, 1) := by decide +kernel
theorem dX10_operand_127 : decode cX10_operand 127 = .ok (.iconst 1, 1) := by decide +kernel
theorem dX10_operand_128 : decode cX10_operand 128 = .ok (.putfield 460, 3) := by decide +kernel
theorem dX10_operand_131 : decode cX10_operand 131 = .ok (.iload_n 3, 1) := by decide +kernel
theorem dX10_operand_132 : decode cX10_operand 132 = .ok (.iconst 2, 1) := by decide +kernel
theorem dX10_operand_133 : decode cX10_operand 133 = .ok (.if_icmp .ge 12, 3) := by decide +kernel
theorem dX10_operand_136 : decode cX10_operand 136 = .ok (.aload_n 0, 1) := by decide +kernel
theorem dX10_operand_137 : decode cX10_operand 137 = .ok (.iload_n 3, 1) := by decide +kernel
theorem dX10_operand_138 : decode cX10_operand 138 = .ok (.iconst 0, 1) := by decide +kernel
theorem dX10_operand_139 : decode cX10_operand 139 = .ok (.iconst 0, 1) := by decide +kernel
theorem dX10_operand_140 : decode cX10_operand 140 = .ok (.invokevirtual 447, 3) := by decide +kernel
theorem dX10_operand_143 : decode cX10_operand 143 = .ok (.iconst 1, 1) := by decide +kernel
theorem dX10_operand_144 : decode cX10_operand 144 = .ok (.ireturn, 1) := by decide +kernel
theorem dX10_operand_145 : decode cX10_operand 145 = .ok (.iload_n 3, 1) := by decide +kernel
theorem dX10_operand_146 : decode cX10_operand 146 = .ok (.iconst 2, 1) := by decide +kernel
theorem dX10_operand_147 : decode cX10_operand 147 = .ok (.if_icmp .ne 54, 3) := by decide +kernel
theorem dX10_operand_150 : decode cX10_operand 150 = .ok (.aload_n 0, 1) := by decide +kernel
theorem dX10_operand_151 : decode cX10_operand 151 = .ok (.invokevirtual 218, 3) := by decide +kernel
theorem dX10_operand_154 : decode cX10_operand 154 = .ok (.ifCond .ne 9, 3) := by decide +kernel
theorem dX10_operand_157 : decode cX10_operand 157 = .ok (.aload_n 0, 1) := by decide +kernel
theorem dX10_operand_158 : decode cX10_operand 158 = .ok (.iconst 1, 1) := by decide +kernel
theorem dX10_operand_159 : decode cX10_operand 159 = .ok (.invokevirtual 205, 3) := by decide +kernel
theorem dX10_operand_162 : decode cX10_operand 162 = .ok (.ireturn, 1) := by decide +kernel
theorem dX10_operand_163 : decode cX10_operand 163 = .ok (.aload_n 0, 1) := by decide +kernel
theorem dX10_operand_164 : decode cX10_operand 164 = .ok (.iconst 0, 1) := by decide +kernel
theorem dX10_operand_165 : decode cX10_operand 165 = .ok (.aload_n 0, 1) := by decide +kernel
theorem dX10_operand_166 : decode cX10_operand 166 = .ok (.getfield 37, 3) := by decide +kernel
theorem dX10_operand_169 : decode cX10_operand 169 = .ok (.iconst 5, 1) := by decide +kernel
theorem dX10_operand_170 : decode cX10_operand 170 = .ok (.iaload, 1) := by decide +kernel
theorem dX10_operand_171 : decode cX10_operand 171 = .ok (.invokevirtual 222, 3) := by decide +kernel
theorem dX10_operand_174 : decode cX10_operand 174 = .ok (.istore 4, 2) := by decide +kernel
theorem dX10_operand_176 : decode cX10_operand 176 = .ok (.iload 4, 2) := by decide +kernel
theorem dX10_operand_178 : decode cX10_operand 178 = .ok (.ifCond .ge 9, 3) := by decide +kernel
theorem dX10_operand_181 : decode cX10_operand 181 = .ok (.aload_n 0, 1) := by decide +kernel
theorem dX10_operand_182 : decode cX10_operand 182 = .ok (.iconst 3, 1) := by decide +kernel
theorem dX10_operand_183 : decode cX10_operand 183 = .ok (.invokevirtual 205, 3) := by decide +kernel
theorem dX10_operand_186 : decode cX10_operand 186 = .ok (.ireturn, 1) := by decide +kernel
theorem dX10_operand_187 : decode cX10_operand 187 = .ok (.aload_n 0, 1) := by decide +kernel
theorem dX10_operand_188 : decode cX10_operand 188 = .ok (.iload_n 3, 1) := by decide +kernel
theorem dX10_operand_189 : decode cX10_operand 189 = .ok (.iconst 0, 1) := by decide +kernel
theorem dX10_operand_190 : decode cX10_operand 190 = .ok (.iload 4, 2) := by decide +kernel
theorem dX10_operand_192 : decode cX10_operand 192 = .ok (.invokevirtual 447, 3) := by decide +kernel
theorem dX10_operand_195 : decode cX10_operand 195 = .ok (.aload_n 0, 1) := by decide +kernel
theorem dX10_operand_196 : decode cX10_operand 196 = .ok (.invokevirtual 208, 3) := by decide +kernel
theorem dX10_operand_199 : decode cX10_operand 199 = .ok (.iconst 1, 1) := by decide +kernel
theorem dX10_operand_200 : decode cX10_operand 200 = .ok (.ireturn, 1) := by decide +kernel
theorem dX10_operand_201 : decode cX10_operand 201 = .ok (.aload_n 0, 1) := by decide +kernel
theorem dX10_operand_202 : decode cX10_operand 202 = .ok (.getfield 179, 3) := by decide +kernel
theorem dX10_operand_205 : decode cX10_operand 205 = .ok (.iconst 3, 1) := by decide +kernel
theorem dX10_operand_206 : decode cX10_operand 206 = .ok (.if_icmp .ne 21, 3) := by decide +kernel
theorem dX10_operand_209 : decode cX10_operand 209 = .ok (.aload_n 0, 1) := by decide +kernel
theorem dX10_operand_210 : decode cX10_operand 210 = .ok (.getfield 189, 3) := by decide +kernel
theorem dX10_operand_213 : decode cX10_operand 213 = .ok (.bipush 60, 2) := by decide +kernel
theorem dX10_operand_215 : decode cX10_operand 215 = .ok (.if_icmp .lt 12, 3) := by decide +kernel
theorem dX10_operand_218 : decode cX10_operand 218 = .ok (.aload_n 0, 1) := by decide +kernel
theorem dX10_operand_219 : decode cX10_operand 219 = .ok (.getfield 189, 3) := by decide +kernel
theorem dX10_operand_222 : decode cX10_operand 222 = .ok (.bipush 62, 2) := by decide +kernel
theorem dX10_operand_224 : decode cX10_operand 224 = .ok (.if_icmp .le 9, 3) := by decide +kernel
theorem dX10_operand_227 : decode cX10_operand 227 = .ok (.aload_n 0, 1) := by decide +kernel
theorem dX10_operand_228 : decode cX10_operand 228 = .ok (.iconst 1, 1) := by decide +kernel
theorem dX10_operand_229 : decode cX10_operand 229 = .ok (.invokevirtual 205, 3) := by decide +kernel
theorem dX10_operand_232 : decode cX10_operand 232 = .ok (.ireturn, 1) := by decide +kernel
theorem dX10_operand_233 : decode cX10_operand 233 = .ok (.aload_n 0, 1) := by decide +kernel
theorem dX10_operand_234 : decode cX10_operand 234 = .ok (.getfield 189, 3) := by decide +kernel
theorem dX10_operand_237 : decode cX10_operand 237 = .ok (.istore 4, 2) := by decide +kernel
theorem dX10_operand_239 : decode cX10_operand 239 = .ok (.aload_n 0, 1) := by decide +kernel
theorem dX10_operand_240 : decode cX10_operand 240 = .ok (.invokevirtual 208, 3) := by decide +kernel
theorem dX10_operand_243 : decode cX10_operand 243 = .ok (.aload_n 0, 1) := by decide +kernel
theorem dX10_operand_244 : decode cX10_operand 244 = .ok (.getfield 179, 3) := by decide +kernel
theorem dX10_operand_247 : decode cX10_operand 247 = .ok (.iconst 2, 1) := by decide +kernel
theorem dX10_operand_248 : decode cX10_operand 248 = .ok (.if_icmp .eq 9, 3) := by decide +kernel
theorem dX10_operand_251 : decode cX10_operand 251 = .ok (.aload_n 0, 1) := by decide +kernel
theorem dX10_operand_252 : decode cX10_operand 252 = .ok (.iconst 1, 1) := by decide +kernel
theorem dX10_operand_253 : decode cX10_operand 253 = .ok (.invokevirtual 205, 3) := by decide +kernel
theorem dX10_operand_256 : decode cX10_operand 256 = .ok (.ireturn, 1) := by decide +kernel
theorem dX10_operand_257 : decode cX10_operand 257 = .ok (.aload_n 0, 1) := by decide +kernel
theorem dX10_operand_258 : decode cX10_operand 258 = .ok (.iload_n 3, 1) := by decide +kernel
theorem dX10_operand_259 : decode cX10_operand 259 = .ok (.iload 4, 2) := by decide +kernel
theorem dX10_operand_261 : decode cX10_operand 261 = .ok (.aload_n 0, 1) := by decide +kernel
theorem dX10_operand_262 : decode cX10_operand 262 = .ok (.getfield 189, 3) := by decide +kernel
theorem dX10_operand_265 : decode cX10_operand 265 = .ok (.invokevirtual 447, 3) := by decide +kernel
theorem dX10_operand_268 : decode cX10_operand 268 = .ok (.aload_n 0, 1) := by decide +kernel
theorem dX10_operand_269 : decode cX10_operand 269 = .ok (.invokevirtual 208, 3) := by decide +kernel
theorem dX10_operand_272 : decode cX10_operand 272 = .ok (.iconst 1, 1) := by decide +kernel
theorem dX10_operand_273 : decode cX10_operand 273 = .ok (.ireturn, 1) := by decide +kernel
theorem dX10_behind__0 : decode cX10_behind_ 0 = .ok (.aload_n 0, 1) := by decide +kernel
theorem dX10_behind__1 : decode cX10_behind_ 1 = .ok (.invokevirtual 463, 3) := by decide +kernel
theorem dX10_behind__4 : decode cX10_behind_ 4 = .ok (.aload_n 0, 1) := by decide +kernel
theorem dX10_behind__5 : decode cX10_behind_ 5 = .ok (.ldc2_w 150, 3) := by decide +kernel
theorem dX10_behind__8 : decode cX10_behind_ 8 = .ok (.invokevirtual 225, 3) := by decide +kernel
theorem dX10_behind__11 : decode cX10_behind_ 11 = .ok (.ifCond .ne 13, 3) := by decide +kernel
theorem dX10_behind__14 : decode cX10_behind_ 14 = .ok (.aload_n 0, 1) := by decide +kernel
theorem dX10_behind__15 : decode cX10_behind_ 15 = .ok (.ldc2_w 148, 3) := by decide +kernel
theorem dX10_behind__18 : decode cX10_behind_ 18 = .ok (.invokevirtual 225, 3) := by decide +kernel
theorem dX10_behind__21 : decode cX10_behind_ 21 = .ok (.ifCond .eq 71, 3) := by decide +kernel
theorem dX10_behind__24 : decode cX10_behind_ 24 = .ok (.aload_n 0, 1) := by decide +kernel
theorem dX10_behind__25 : decode cX10_behind_ 25 = .ok (.aload_n 0, 1) := by decide +kernel
theorem dX10_behind__26 : decode cX10_behind_ 26 = .ok (.ldc2_w 150, 3) := by decide +kernel
theorem dX10_behind__29 : decode cX10_behind_ 29 = .ok (.invokevirtual 225, 3) := by decide +kernel
theorem dX10_behind__32 : decode cX10_behind_ 32 = .ok (.ifCond .eq 8, 3) := by decide +kernel
theorem dX10_behind__35 : decode cX10_behind_ 35 = .ok (.bipush 21, 2) := by decide +kernel
theorem dX10_behind__37 : decode cX10_behind_ 37 = .ok (.goto 5, 3) := by decide +kernel
theorem dX10_behind__40 : decode cX10_behind_ 40 = .ok (.bipush 22, 2) := by decide +kernel
theorem dX10_behind__42 : decode cX10_behind_ 42 = .ok (.invokevirtual 466, 3) := by decide +kernel
theorem dX10_behind__45 : decode cX10_behind_ 45 = .ok (.aload_n 0, 1) := by decide +kernel
theorem dX10_behind__46 : decode cX10_behind_ 46 = .ok (.getfield 104, 3) := by decide +kernel
theorem dX10_behind__49 : decode cX10_behind_ 49 = .ok (.aload_n 0, 1) := by decide +kernel
theorem dX10_behind__50 : decode cX10_behind_ 50 = .ok (.getfield 444, 3) := by decide +kernel
theorem dX10_behind__53 : decode cX10_behind_ 53 = .ok (.aload_n 0, 1) := by decide +kernel
theorem dX10_behind__54 : decode cX10_behind_ 54 = .ok (.ldc2_w 150, 3) := by decide +kernel
theorem dX10_behind__57 : decode cX10_behind_ 57 = .ok (.invokevirtual 225, 3) := by decide +kernel
theorem dX10_behind__60 : decode cX10_behind_ 60 = .ok (.ifCond .eq 8, 3) := by decide +kernel
theorem dX10_behind__63 : decode cX10_behind_ 63 = .ok (.bipush 21, 2) := by decide +kernel
theorem dX10_behind__65 : decode cX10_behind_ 65 = .ok (.goto 5, 3) := by decide +kernel
theorem dX10_behind__68 : decode cX10_behind_ 68 = .ok (.bipush 22, 2) := by decide +kernel
theorem dX10_behind__70 : decode cX10_behind_ 70 = .ok (.iastore, 1) := by decide +kernel
theorem dX10_behind__71 : decode cX10_behind_ 71 = .ok (.aload_n 0, 1) := by decide +kernel
theorem dX10_behind__72 : decode cX10_behind_ 72 = .ok (.dup, 1) := by decide +kernel
theorem dX10_behind__73 : decode cX10_behind_ 73 = .ok (.getfield 444, 3) := by decide +kernel
theorem dX10_behind__76 : decode cX10_behind_ 76 = .ok (.iconst 1, 1) := by decide +kernel
theorem dX10_behind__77 : decode cX10_behind_ 77 = .ok (.iadd, 1) := by decide +kernel
theorem dX10_behind__78 : decode cX10_behind_ 78 = .ok (.putfield 444, 3) := by decide +kernel
theorem dX10_behind__81 : decode cX10_behind_ 81 = .ok (.aload_n 0, 1) := by decide +kernel
theorem dX10_behind__82 : decode cX10_behind_ 82 = .ok (.iconst 0, 1) := by decide +kernel
theorem dX10_behind__83 : decode cX10_behind_ 83 = .ok (.putfield 460, 3) := by decide +kernel
theorem dX10_behind__86 : decode cX10_behind_ 86 = .ok (.aload_n 0, 1) := by decide +kernel
theorem dX10_behind__87 : decode cX10_behind_ 87 = .ok (.invokevirtual 208, 3) := by decide +kernel
theorem dX10_behind__90 : decode cX10_behind_ 90 = .ok (.iconst 1, 1) := by decide +kernel
theorem dX10_behind__91 : decode cX10_behind_ 91 = .ok (.ireturn, 1) := by decide +kernel
theorem dX10_behind__92 : decode cX10_behind_ 92 = .ok (.aload_n 0, 1) := by decide +kernel
theorem dX10_behind__93 : decode cX10_behind_ 93 = .ok (.bipush 22, 2) := by decide +kernel
theorem dX10_behind__95 : decode cX10_behind_ 95 = .ok (.invokevirtual 466, 3) := by decide +kernel
theorem dX10_behind__98 : decode cX10_behind_ 98 = .ok (.aload_n 0, 1) := by decide +kernel
theorem dX10_behind__99 : decode cX10_behind_ 99 = .ok (.bipush 41, 2) := by decide +kernel
theorem dX10_behind__101 : decode cX10_behind_ 101 = .ok (.invokevirtual 202, 3) := by decide +kernel
theorem dX10_behind__104 : decode cX10_behind_ 104 = .ok (.ifCond .eq 10, 3) := by decide +kernel
theorem dX10_behind__107 : decode cX10_behind_ 107 = .ok (.aload_n 0, 1) := by decide +kernel
theorem dX10_behind__108 : decode cX10_behind_ 108 = .ok (.getfield 444, 3) := by decide +kernel
theorem dX10_behind__111 : decode cX10_behind_ 111 = .ok (.ifCond .ne 9, 3) := by decide +kernel
theorem dX10_behind__114 : decode cX10_behind_ 114 = .ok (.aload_n 0, 1) := by decide +kernel
theorem dX10_behind__115 : decode cX10_behind_ 115 = .ok (.iconst 1, 1) := by decide +kernel
theorem dX10_behind__116 : decode cX10_behind_ 116 = .ok (.invokevirtual 205, 3) := by decide +kernel
theorem dX10_behind__119 : decode cX10_behind_ 119 = .ok (.ireturn, 1) := by decide +kernel
theorem dX10_behind__120 : decode cX10_behind_ 120 = .ok (.aload_n 0, 1) := by decide +kernel
theorem dX10_behind__121 : decode cX10_behind_ 121 = .ok (.dup, 1) := by decide +kernel
theorem dX10_behind__122 : decode cX10_behind_ 122 = .ok (.getfield 444, 3) := by decide +kernel
theorem dX10_behind__125 : decode cX10_behind_ 125 = .ok (.iconst 1, 1) := by decide +kernel
theorem dX10_behind__126 : decode cX10_behind_ 126 = .ok (.isub, 1) := by decide +kernel
theorem dX10_behind__127 : decode cX10_behind_ 127 = .ok (.putfield 444, 3) := by decide +kernel
theorem dX10_behind__130 : decode cX10_behind_ 130 = .ok (.aload_n 0, 1) := by decide +kernel
theorem dX10_behind__131 : decode cX10_behind_ 131 = .ok (.dup, 1) := by decide +kernel
theorem dX10_behind__132 : decode cX10_behind_ 132 = .ok (.getfield 451, 3) := by decide +kernel
theorem dX10_behind__135 : decode cX10_behind_ 135 = .ok (.iconst 1, 1) := by decide +kernel
theorem dX10_behind__136 : decode cX10_behind_ 136 = .ok (.isub, 1) := by decide +kernel
theorem dX10_behind__137 : decode cX10_behind_ 137 = .ok (.putfield 451, 3) := by decide +kernel
theorem dX10_behind__140 : decode cX10_behind_ 140 = .ok (.aload_n 0, 1) := by decide +kernel
theorem dX10_behind__141 : decode cX10_behind_ 141 = .ok (.invokevirtual 208, 3) := by decide +kernel
theorem dX10_behind__144 : decode cX10_behind_ 144 = .ok (.iconst 1, 1) := by decide +kernel
theorem dX10_behind__145 : decode cX10_behind_ 145 = .ok (.ireturn, 1) := by decide +kernel
theorem dX10_sentence_0 : decode cX10_sentence 0 = .ok (.aload_n 0, 1) := by decide +kernel
theorem dX10_sentence_1 : decode cX10_sentence 1 = .ok (.iconst 0, 1) := by decide +kernel
theorem dX10_sentence_2 : decode cX10_sentence 2 = .ok (.putfield 1, 3) := by decide +kernel
theorem dX10_sentence_5 : decode cX10_sentence 5 = .ok (.aload_n 0, 1) := by decide +kernel
theorem dX10_sentence_6 : decode cX10_sentence 6 = .ok (.sipush 200, 3) := by decide +kernel
theorem dX10_sentence_9 : decode cX10_sentence 9 = .ok (.invokevirtual 248, 3) := by decide +kernel
theorem dX10_sentence_12 : decode cX10_sentence 12 = .ok (.aload_n 0, 1) := by decide +kernel
theorem dX10_sentence_13 : decode cX10_sentence 13 = .ok (.iconst 0, 1) := by decide +kernel
theorem dX10_sentence_14 : decode cX10_sentence 14 = .ok (.putfield 196, 3) := by decide +kernel
theorem dX10_sentence_17 : decode cX10_sentence 17 = .ok (.aload_n 0, 1) := by decide +kernel
theorem dX10_sentence_18 : decode cX10_sentence 18 = .ok (.iconst 0, 1) := by decide +kernel
theorem dX10_sentence_19 : decode cX10_sentence 19 = .ok (.putfield 441, 3) := by decide +kernel
theorem dX10_sentence_22 : decode cX10_sentence 22 = .ok (.aload_n 0, 1) := by decide +kernel
theorem dX10_sentence_23 : decode cX10_sentence 23 = .ok (.iconst 0, 1) := by decide +kernel
theorem dX10_sentence_24 : decode cX10_sentence 24 = .ok (.putfield 457, 3) := by decide +kernel
theorem dX10_sentence_27 : decode cX10_sentence 27 = .ok (.aload_n 0, 1) := by decide +kernel
theorem dX10_sentence_28 : decode cX10_sentence 28 = .ok (.iconst 0, 1) := by decide +kernel
theorem dX10_sentence_29 : decode cX10_sentence 29 = .ok (.putfield 444, 3) := by decide +kernel
theorem dX10_sentence_32 : decode cX10_sentence 32 = .ok (.aload_n 0, 1) := by decide +kernel
theorem dX10_sentence_33 : decode cX10_sentence 33 = .ok (.iconst 1, 1) := by decide +kernel
theorem dX10_sentence_34 : decode cX10_sentence 34 = .ok (.putfield 451, 3) := by decide +kernel
theorem dX10_sentence_37 : decode cX10_sentence 37 = .ok (.aload_n 0, 1) := by decide +kernel
theorem dX10_sentence_38 : decode cX10_sentence 38 = .ok (.iconst 0, 1) := by decide +kernel
theorem dX10_sentence_39 : decode cX10_sentence 39 = .ok (.putfield 460, 3) := by decide +kernel
theorem dX10_sentence_42 : decode cX10_sentence 42 = .ok (.aload_n 0, 1) := by decide +kernel
theorem dX10_sentence_43 : decode cX10_sentence 43 = .ok (.invokevirtual 208, 3) := by decide +kernel
theorem dX10_sentence_46 : decode cX10_sentence 46 = .ok (.iconst 1, 1) := by decide +kernel
theorem dX10_sentence_47 : decode cX10_sentence 47 = .ok (.istore_n 1, 1) := by decide +kernel
theorem dX10_sentence_48 : decode cX10_sentence 48 = .ok (.iload_n 1, 1) := by decide +kernel
theorem dX10_sentence_49 : decode cX10_sentence 49 = .ok (.ifCond .eq 83, 3) := by decide +kernel
theorem dX10_sentence_52 : decode cX10_sentence 52 = .ok (.aload_n 0, 1) := by decide +kernel
theorem dX10_sentence_53 : decode cX10_sentence 53 = .ok (.getfield 460, 3) := by decide +kernel
theorem dX10_sentence_56 : decode cX10_sentence 56 = .ok (.ifCond .eq 45, 3) := by decide +kernel
theorem dX10_sentence_59 : decode cX10_sentence 59 = .ok (.aload_n 0, 1) := by decide +kernel
theorem dX10_sentence_60 : decode cX10_sentence 60 = .ok (.getfield 179, 3) := by decide +kernel
theorem dX10_sentence_63 : decode cX10_sentence 63 = .ok (.ifCond .ne 38, 3) := by decide +kernel
theorem dX10_sentence_66 : decode cX10_sentence 66 = .ok (.aload_n 0, 1) := by decide +kernel
theorem dX10_sentence_67 : decode cX10_sentence 67 = .ok (.invokevirtual 463, 3) := by decide +kernel
theorem dX10_sentence_70 : decode cX10_sentence 70 = .ok (.aload_n 0, 1) := by decide +kernel
theorem dX10_sentence_71 : decode cX10_sentence 71 = .ok (.bipush 22, 2) := by decide +kernel
theorem dX10_sentence_73 : decode cX10_sentence 73 = .ok (.invokevirtual 466, 3) := by decide +kernel
theorem dX10_sentence_76 : decode cX10_sentence 76 = .ok (.aload_n 0, 1) := by decide +kernel
theorem dX10_sentence_77 : decode cX10_sentence 77 = .ok (.getfield 444, 3) := by decide +kernel
theorem dX10_sentence_80 : decode cX10_sentence 80 = .ok (.ifCond .le 16, 3) := by decide +kernel
theorem dX10_sentence_83 : decode cX10_sentence 83 = .ok (.aload_n 0, 1) := by decide +kernel
theorem dX10_sentence_84 : decode cX10_sentence 84 = .ok (.iconst 1, 1) := by decide +kernel
theorem dX10_sentence_85 : decode cX10_sentence 85 = .ok (.invokevirtual 205, 3) := by decide +kernel
theorem dX10_sentence_88 : decode cX10_sentence 88 = .ok (.pop, 1) := by decide +kernel
theorem dX10_sentence_89 : decode cX10_sentence 89 = .ok (.iconst (-1), 1) := by decide +kernel
theorem dX10_sentence_90 : decode cX10_sentence 90 = .ok (.aload_n 0, 1) := by decide +kernel
theorem dX10_sentence_91 : decode cX10_sentence 91 = .ok (.getfield 199, 3) := by decide +kernel
theorem dX10_sentence_94 : decode cX10_sentence 94 = .ok (.isub, 1) := by decide +kernel
theorem dX10_sentence_95 : decode cX10_sentence 95 = .ok (.ireturn, 1) := by decide +kernel
theorem dX10_sentence_96 : decode cX10_sentence 96 = .ok (.iconst 0, 1) := by decide +kernel
theorem dX10_sentence_97 : decode cX10_sentence 97 = .ok (.istore_n 1, 1) := by decide +kernel
theorem dX10_sentence_98 : decode cX10_sentence 98 = .ok (.goto (-50), 3) := by decide +kernel
theorem dX10_sentence_101 : decode cX10_sentence 101 = .ok (.aload_n 0, 1) := by decide +kernel
theorem dX10_sentence_102 : decode cX10_sentence 102 = .ok (.getfield 460, 3) := by decide +kernel
theorem dX10_sentence_105 : decode cX10_sentence 105 = .ok (.ifCond .eq 13, 3) := by decide +kernel
theorem dX10_sentence_108 : decode cX10_sentence 108 = .ok (.aload_n 0, 1) := by decide +kernel
theorem dX10_sentence_109 : decode cX10_sentence 109 = .ok (.invokevirtual 469, 3) := by decide +kernel
theorem dX10_sentence_112 : decode cX10_sentence 112 = .ok (.ifCond .ne (-64), 3) := by decide +kernel
theorem dX10_sentence_115 : decode cX10_sentence 115 = .ok (.goto 10, 3) := by decide +kernel
theorem dX10_sentence_118 : decode cX10_sentence 118 = .ok (.aload_n 0, 1) := by decide +kernel
theorem dX10_sentence_119 : decode cX10_sentence 119 = .ok (.invokevirtual 472, 3) := by decide +kernel
theorem dX10_sentence_122 : decode cX10_sentence 122 = .ok (.ifCond .ne (-74), 3) := by decide +kernel
theorem dX10_sentence_125 : decode cX10_sentence 125 = .ok (.iconst (-1), 1) := by decide +kernel
theorem dX10_sentence_126 : decode cX10_sentence 126 = .ok (.aload_n 0, 1) := by decide +kernel
theorem dX10_sentence_127 : decode cX10_sentence 127 = .ok (.getfield 199, 3) := by decide +kernel
theorem dX10_sentence_130 : decode cX10_sentence 130 = .ok (.isub, 1) := by decide +kernel
theorem dX10_sentence_131 : decode cX10_sentence 131 = .ok (.ireturn, 1) := by decide +kernel
theorem dX10_sentence_132 : decode cX10_sentence 132 = .ok (.aload_n 0, 1) := by decide +kernel
theorem dX10_sentence_133 : decode cX10_sentence 133 = .ok (.getfield 37, 3) := by decide +kernel
theorem dX10_sentence_136 : decode cX10_sentence 136 = .ok (.sipush 153, 3) := by decide +kernel
theorem dX10_sentence_139 : decode cX10_sentence 139 = .ok (.aload_n 0, 1) := by decide +kernel
theorem dX10_sentence_140 : decode cX10_sentence 140 = .ok (.getfield 441, 3) := by decide +kernel
theorem dX10_sentence_143 : decode cX10_sentence 143 = .ok (.iastore, 1) := by decide +kernel
theorem dX10_sentence_144 : decode cX10_sentence 144 = .ok (.iconst 0, 1) := by decide +kernel
theorem dX10_sentence_145 : decode cX10_sentence 145 = .ok (.istore_n 2, 1) := by decide +kernel
theorem dX10_sentence_146 : decode cX10_sentence 146 = .ok (.iload_n 2, 1) := by decide +kernel
theorem dX10_sentence_147 : decode cX10_sentence 147 = .ok (.iconst 3, 1) := by decide +kernel
theorem dX10_sentence_148 : decode cX10_sentence 148 = .ok (.aload_n 0, 1) := by decide +kernel
theorem dX10_sentence_149 : decode cX10_sentence 149 = .ok (.getfield 441, 3) := by decide +kernel
theorem dX10_sentence_152 : decode cX10_sentence 152 = .ok (.imul, 1) := by decide +kernel
theorem dX10_sentence_153 : decode cX10_sentence 153 = .ok (.if_icmp .ge 25, 3) := by decide +kernel
theorem dX10_sentence_156 : decode cX10_sentence 156 = .ok (.aload_n 0, 1) := by decide +kernel
theorem dX10_sentence_157 : decode cX10_sentence 157 = .ok (.getfield 37, 3) := by decide +kernel
theorem dX10_sentence_160 : decode cX10_sentence 160 = .ok (.sipush 154, 3) := by decide +kernel
theorem dX10_sentence_163 : decode cX10_sentence 163 = .ok (.iload_n 2, 1) := by decide +kernel
theorem dX10_sentence_164 : decode cX10_sentence 164 = .ok (.iadd, 1) := by decide +kernel
theorem dX10_sentence_165 : decode cX10_sentence 165 = .ok (.aload_n 0, 1) := by decide +kernel
theorem dX10_sentence_166 : decode cX10_sentence 166 = .ok (.getfield 44, 3) := by decide +kernel
theorem dX10_sentence_169 : decode cX10_sentence 169 = .ok (.iload_n 2, 1) := by decide +kernel
theorem dX10_sentence_170 : decode cX10_sentence 170 = .ok (.iaload, 1) := by decide +kernel
theorem dX10_sentence_171 : decode cX10_sentence 171 = .ok (.iastore, 1) := by decide +kernel
theorem dX10_sentence_172 : decode cX10_sentence 172 = .ok (.iinc 2 1, 3) := by decide +kernel
theorem dX10_sentence_175 : decode cX10_sentence 175 = .ok (.goto (-29), 3) := by decide +kernel
theorem dX10_sentence_178 : decode cX10_sentence 178 = .ok (.aload_n 0, 1) := by decide +kernel
theorem dX10_sentence_179 : decode cX10_sentence 179 = .ok (.getfield 457, 3) := by decide +kernel
theorem dX10_sentence_182 : decode cX10_sentence 182 = .ok (.ireturn, 1) := by decide +kernel
theorem dX10_isLeaf_0 : decode cX10_isLeaf 0 = .ok (.aload_n 0, 1) := by decide +kernel
theorem dX10_isLeaf_1 : decode cX10_isLeaf 1 = .ok (.iload_n 1, 1) := by decide +kernel
theorem dX10_isLeaf_2 : decode cX10_isLeaf 2 = .ok (.invokevirtual 288, 3) := by decide +kernel
theorem dX10_isLeaf_5 : decode cX10_isLeaf 5 = .ok (.istore 5, 2) := by decide +kernel
theorem dX10_isLeaf_7 : decode cX10_isLeaf 7 = .ok (.iload_n 2, 1) := by decide +kernel
theorem dX10_isLeaf_8 : decode cX10_isLeaf 8 = .ok (.ifCond .ne 14, 3) := by decide +kernel
theorem dX10_isLeaf_11 : decode cX10_isLeaf 11 = .ok (.iload 5, 2) := by decide +kernel
theorem dX10_isLeaf_13 : decode cX10_isLeaf 13 = .ok (.ifCond .lt 7, 3) := by decide +kernel
theorem dX10_isLeaf_16 : decode cX10_isLeaf 16 = .ok (.iconst 1, 1) := by decide +kernel
theorem dX10_isLeaf_17 : decode cX10_isLeaf 17 = .ok (.goto 4, 3) := by decide +kernel
theorem dX10_isLeaf_20 : decode cX10_isLeaf 20 = .ok (.iconst 0, 1) := by decide +kernel
theorem dX10_isLeaf_21 : decode cX10_isLeaf 21 = .ok (.ireturn, 1) := by decide +kernel
theorem dX10_isLeaf_22 : decode cX10_isLeaf 22 = .ok (.iload_n 2, 1) := by decide +kernel
theorem dX10_isLeaf_23 : decode cX10_isLeaf 23 = .ok (.iconst 1, 1) := by decide +kernel
theorem dX10_isLeaf_24 : decode cX10_isLeaf 24 = .ok (.if_icmp .ne 24, 3) := by decide +kernel
theorem dX10_isLeaf_27 : decode cX10_isLeaf 27 = .ok (.iload 5, 2) := by decide +kernel
theorem dX10_isLeaf_29 : decode cX10_isLeaf 29 = .ok (.ifCond .ge 5, 3) := by decide +kernel
theorem dX10_isLeaf_32 : decode cX10_isLeaf 32 = .ok (.iconst 0, 1) := by decide +kernel
theorem dX10_isLeaf_33 : decode cX10_isLeaf 33 = .ok (.ireturn, 1) := by decide +kernel
theorem dX10_isLeaf_34 : decode cX10_isLeaf 34 = .ok (.aload_n 0, 1) := by decide +kernel
theorem dX10_isLeaf_35 : decode cX10_isLeaf 35 = .ok (.invokevirtual 340, 3) := by decide +kernel
theorem dX10_isLeaf_38 : decode cX10_isLeaf 38 = .ok (.aload_n 0, 1) := by decide +kernel
theorem dX10_isLeaf_39 : decode cX10_isLeaf 39 = .ok (.getfield 317, 3) := by decide +kernel
theorem dX10_isLeaf_42 : decode cX10_isLeaf 42 = .ok (.iload 5, 2) := by decide +kernel
theorem dX10_isLeaf_44 : decode cX10_isLeaf 44 = .ok (.invokestatic 232, 3) := by decide +kernel
theorem dX10_isLeaf_47 : decode cX10_isLeaf 47 = .ok (.ireturn, 1) := by decide +kernel
theorem dX10_isLeaf_48 : decode cX10_isLeaf 48 = .ok (.iload_n 2, 1) := by decide +kernel
theorem dX10_isLeaf_49 : decode cX10_isLeaf 49 = .ok (.iconst 2, 1) := by decide +kernel
theorem dX10_isLeaf_50 : decode cX10_isLeaf 50 = .ok (.if_icmp .ne 50, 3) := by decide +kernel
theorem dX10_isLeaf_53 : decode cX10_isLeaf 53 = .ok (.iload 5, 2) := by decide +kernel
theorem dX10_isLeaf_55 : decode cX10_isLeaf 55 = .ok (.ifCond .lt 43, 3) := by decide +kernel
theorem dX10_isLeaf_58 : decode cX10_isLeaf 58 = .ok (.aload_n 0, 1) := by decide +kernel
theorem dX10_isLeaf_59 : decode cX10_isLeaf 59 = .ok (.iload 4, 2) := by decide +kernel
theorem dX10_isLeaf_61 : decode cX10_isLeaf 61 = .ok (.invokevirtual 288, 3) := by decide +kernel
theorem dX10_isLeaf_64 : decode cX10_isLeaf 64 = .ok (.ifCond .lt 34, 3) := by decide +kernel
theorem dX10_isLeaf_67 : decode cX10_isLeaf 67 = .ok (.aload_n 0, 1) := by decide +kernel
theorem dX10_isLeaf_68 : decode cX10_isLeaf 68 = .ok (.getfield 37, 3) := by decide +kernel
theorem dX10_isLeaf_71 : decode cX10_isLeaf 71 = .ok (.bipush 109, 2) := by decide +kernel
theorem dX10_isLeaf_73 : decode cX10_isLeaf 73 = .ok (.iload 5, 2) := by decide +kernel
theorem dX10_isLeaf_75 : decode cX10_isLeaf 75 = .ok (.iadd, 1) := by decide +kernel
theorem dX10_isLeaf_76 : decode cX10_isLeaf 76 = .ok (.iaload, 1) := by decide +kernel
theorem dX10_isLeaf_77 : decode cX10_isLeaf 77 = .ok (.aload_n 0, 1) := by decide +kernel
theorem dX10_isLeaf_78 : decode cX10_isLeaf 78 = .ok (.getfield 37, 3) := by decide +kernel
theorem dX10_isLeaf_81 : decode cX10_isLeaf 81 = .ok (.bipush 109, 2) := by decide +kernel
theorem dX10_isLeaf_83 : decode cX10_isLeaf 83 = .ok (.aload_n 0, 1) := by decide +kernel
theorem dX10_isLeaf_84 : decode cX10_isLeaf 84 = .ok (.iload 4, 2) := by decide +kernel
theorem dX10_isLeaf_86 : decode cX10_isLeaf 86 = .ok (.invokevirtual 288, 3) := by decide +kernel
theorem dX10_isLeaf_89 : decode cX10_isLeaf 89 = .ok (.iadd, 1) := by decide +kernel
theorem dX10_isLeaf_90 : decode cX10_isLeaf 90 = .ok (.iaload, 1) := by decide +kernel
theorem dX10_isLeaf_91 : decode cX10_isLeaf 91 = .ok (.if_icmp .ge 7, 3) := by decide +kernel
theorem dX10_isLeaf_94 : decode cX10_isLeaf 94 = .ok (.iconst 1, 1) := by decide +kernel
theorem dX10_isLeaf_95 : decode cX10_isLeaf 95 = .ok (.goto 4, 3) := by decide +kernel
theorem dX10_isLeaf_98 : decode cX10_isLeaf 98 = .ok (.iconst 0, 1) := by decide +kernel
theorem dX10_isLeaf_99 : decode cX10_isLeaf 99 = .ok (.ireturn, 1) := by decide +kernel
theorem dX10_isLeaf_100 : decode cX10_isLeaf 100 = .ok (.iload_n 2, 1) := by decide +kernel
theorem dX10_isLeaf_101 : decode cX10_isLeaf 101 = .ok (.iconst 3, 1) := by decide +kernel
theorem dX10_isLeaf_102 : decode cX10_isLeaf 102 = .ok (.if_icmp .ne 15, 3) := by decide +kernel
theorem dX10_isLeaf_105 : decode cX10_isLeaf 105 = .ok (.aload_n 0, 1) := by decide +kernel
theorem dX10_isLeaf_106 : decode cX10_isLeaf 106 = .ok (.getfield 37, 3) := by decide +kernel
theorem dX10_isLeaf_109 : decode cX10_isLeaf 109 = .ok (.bipush 8, 2) := by decide +kernel
theorem dX10_isLeaf_111 : decode cX10_isLeaf 111 = .ok (.iload_n 1, 1) := by decide +kernel
theorem dX10_isLeaf_112 : decode cX10_isLeaf 112 = .ok (.iadd, 1) := by decide +kernel
theorem dX10_isLeaf_113 : decode cX10_isLeaf 113 = .ok (.iaload, 1) := by decide +kernel
theorem dX10_isLeaf_114 : decode cX10_isLeaf 114 = .ok (.goto 38, 3) := by decide +kernel
theorem dX10_isLeaf_117 : decode cX10_isLeaf 117 = .ok (.iload_n 2, 1) := by decide +kernel
theorem dX10_isLeaf_118 : decode cX10_isLeaf 118 = .ok (.iconst 4, 1) := by decide +kernel
theorem dX10_isLeaf_119 : decode cX10_isLeaf 119 = .ok (.if_icmp .ne 15, 3) := by decide +kernel
theorem dX10_isLeaf_122 : decode cX10_isLeaf 122 = .ok (.aload_n 0, 1) := by decide +kernel
theorem dX10_isLeaf_123 : decode cX10_isLeaf 123 = .ok (.getfield 37, 3) := by decide +kernel
theorem dX10_isLeaf_126 : decode cX10_isLeaf 126 = .ok (.bipush 20, 2) := by decide +kernel
theorem dX10_isLeaf_128 : decode cX10_isLeaf 128 = .ok (.iload_n 1, 1) := by decide +kernel
theorem dX10_isLeaf_129 : decode cX10_isLeaf 129 = .ok (.iadd, 1) := by decide +kernel
theorem dX10_isLeaf_130 : decode cX10_isLeaf 130 = .ok (.iaload, 1) := by decide +kernel
theorem dX10_isLeaf_131 : decode cX10_isLeaf 131 = .ok (.goto 21, 3) := by decide +kernel
theorem dX10_isLeaf_134 : decode cX10_isLeaf 134 = .ok (.iload_n 2, 1) := by decide +kernel
theorem dX10_isLeaf_135 : decode cX10_isLeaf 135 = .ok (.iconst 5, 1) := by decide +kernel
theorem dX10_isLeaf_136 : decode cX10_isLeaf 136 = .ok (.if_icmp .ne 15, 3) := by decide +kernel
theorem dX10_isLeaf_139 : decode cX10_isLeaf 139 = .ok (.aload_n 0, 1) := by decide +kernel
theorem dX10_isLeaf_140 : decode cX10_isLeaf 140 = .ok (.getfield 37, 3) := by decide +kernel
theorem dX10_isLeaf_143 : decode cX10_isLeaf 143 = .ok (.bipush 32, 2) := by decide +kernel
theorem dX10_isLeaf_145 : decode cX10_isLeaf 145 = .ok (.iload_n 1, 1) := by decide +kernel
theorem dX10_isLeaf_146 : decode cX10_isLeaf 146 = .ok (.iadd, 1) := by decide +kernel
theorem dX10_isLeaf_147 : decode cX10_isLeaf 147 = .ok (.iaload, 1) := by decide +kernel
theorem dX10_isLeaf_148 : decode cX10_isLeaf 148 = .ok (.goto 4, 3) := by decide +kernel
theorem dX10_isLeaf_151 : decode cX10_isLeaf 151 = .ok (.iload_n 1, 1) := by decide +kernel
theorem dX10_isLeaf_152 : decode cX10_isLeaf 152 = .ok (.istore 6, 2) := by decide +kernel
theorem dX10_isLeaf_154 : decode cX10_isLeaf 154 = .ok (.iload_n 3, 1) := by decide +kernel
theorem dX10_isLeaf_155 : decode cX10_isLeaf 155 = .ok (.bipush 60, 2) := by decide +kernel
theorem dX10_isLeaf_157 : decode cX10_isLeaf 157 = .ok (.if_icmp .ne 18, 3) := by decide +kernel
theorem dX10_isLeaf_160 : decode cX10_isLeaf 160 = .ok (.iload 6, 2) := by decide +kernel
theorem dX10_isLeaf_162 : decode cX10_isLeaf 162 = .ok (.iload 4, 2) := by decide +kernel
theorem dX10_isLeaf_164 : decode cX10_isLeaf 164 = .ok (.if_icmp .ge 7, 3) := by decide +kernel
theorem dX10_isLeaf_167 : decode cX10_isLeaf 167 = .ok (.iconst 1, 1) := by decide +kernel
theorem dX10_isLeaf_168 : decode cX10_isLeaf 168 = .ok (.goto 40, 3) := by decide +kernel
theorem dX10_isLeaf_171 : decode cX10_isLeaf 171 = .ok (.iconst 0, 1) := by decide +kernel
theorem dX10_isLeaf_172 : decode cX10_isLeaf 172 = .ok (.goto 36, 3) := by decide +kernel
theorem dX10_isLeaf_175 : decode cX10_isLeaf 175 = .ok (.iload_n 3, 1) := by decide +kernel
theorem dX10_isLeaf_176 : decode cX10_isLeaf 176 = .ok (.bipush 61, 2) := by decide +kernel
theorem dX10_isLeaf_178 : decode cX10_isLeaf 178 = .ok (.if_icmp .ne 18, 3) := by decide +kernel
theorem dX10_isLeaf_181 : decode cX10_isLeaf 181 = .ok (.iload 6, 2) := by decide +kernel
theorem dX10_isLeaf_183 : decode cX10_isLeaf 183 = .ok (.iload 4, 2) := by decide +kernel
theorem dX10_isLeaf_185 : decode cX10_isLeaf 185 = .ok (.if_icmp .ne 7, 3) := by decide +kernel
theorem dX10_isLeaf_188 : decode cX10_isLeaf 188 = .ok (.iconst 1, 1) := by decide +kernel
theorem dX10_isLeaf_189 : decode cX10_isLeaf 189 = .ok (.goto 19, 3) := by decide +kernel
theorem dX10_isLeaf_192 : decode cX10_isLeaf 192 = .ok (.iconst 0, 1) := by decide +kernel
theorem dX10_isLeaf_193 : decode cX10_isLeaf 193 = .ok (.goto 15, 3) := by decide +kernel
theorem dX10_isLeaf_196 : decode cX10_isLeaf 196 = .ok (.iload 6, 2) := by decide +kernel
theorem dX10_isLeaf_198 : decode cX10_isLeaf 198 = .ok (.iload 4, 2) := by decide +kernel
theorem dX10_isLeaf_200 : decode cX10_isLeaf 200 = .ok (.if_icmp .le 7, 3) := by decide +kernel
theorem dX10_isLeaf_203 : decode cX10_isLeaf 203 = .ok (.iconst 1, 1) := by decide +kernel
theorem dX10_isLeaf_204 : decode cX10_isLeaf 204 = .ok (.goto 4, 3) := by decide +kernel
theorem dX10_isLeaf_207 : decode cX10_isLeaf 207 = .ok (.iconst 0, 1) := by decide +kernel
theorem dX10_isLeaf_208 : decode cX10_isLeaf 208 = .ok (.ireturn, 1) := by decide +kernel
theorem dX10_isSaid_0 : decode cX10_isSaid 0 = .ok (.iconst 0, 1) := by decide +kernel
theorem dX10_isSaid_1 : decode cX10_isSaid 1 = .ok (.istore_n 2, 1) := by decide +kernel
theorem dX10_isSaid_2 : decode cX10_isSaid 2 = .ok (.iconst 0, 1) := by decide +kernel
theorem dX10_isSaid_3 : decode cX10_isSaid 3 = .ok (.istore_n 3, 1) := by decide +kernel
theorem dX10_isSaid_4 : decode cX10_isSaid 4 = .ok (.iload_n 3, 1) := by decide +kernel
theorem dX10_isSaid_5 : decode cX10_isSaid 5 = .ok (.aload_n 0, 1) := by decide +kernel
theorem dX10_isSaid_6 : decode cX10_isSaid 6 = .ok (.getfield 37, 3) := by decide +kernel
theorem dX10_isSaid_9 : decode cX10_isSaid 9 = .ok (.sipush 153, 3) := by decide +kernel
theorem dX10_isSaid_12 : decode cX10_isSaid 12 = .ok (.iaload, 1) := by decide +kernel
theorem dX10_isSaid_13 : decode cX10_isSaid 13 = .ok (.if_icmp .ge 199, 3) := by decide +kernel
theorem dX10_isSaid_16 : decode cX10_isSaid 16 = .ok (.sipush 154, 3) := by decide +kernel
theorem dX10_isSaid_19 : decode cX10_isSaid 19 = .ok (.iconst 3, 1) := by decide +kernel
theorem dX10_isSaid_20 : decode cX10_isSaid 20 = .ok (.iload_n 3, 1) := by decide +kernel
theorem dX10_isSaid_21 : decode cX10_isSaid 21 = .ok (.imul, 1) := by decide +kernel
theorem dX10_isSaid_22 : decode cX10_isSaid 22 = .ok (.iadd, 1) := by decide +kernel
theorem dX10_isSaid_23 : decode cX10_isSaid 23 = .ok (.istore 4, 2) := by decide +kernel
theorem dX10_isSaid_25 : decode cX10_isSaid 25 = .ok (.aload_n 0, 1) := by decide +kernel
theorem dX10_isSaid_26 : decode cX10_isSaid 26 = .ok (.getfield 37, 3) := by decide +kernel
theorem dX10_isSaid_29 : decode cX10_isSaid 29 = .ok (.iload 4, 2) := by decide +kernel
theorem dX10_isSaid_31 : decode cX10_isSaid 31 = .ok (.iaload, 1) := by decide +kernel
theorem dX10_isSaid_32 : decode cX10_isSaid 32 = .ok (.bipush 20, 2) := by decide +kernel
theorem dX10_isSaid_34 : decode cX10_isSaid 34 = .ok (.if_icmp .ne 30, 3) := by decide +kernel
theorem dX10_isSaid_37 : decode cX10_isSaid 37 = .ok (.aload_n 0, 1) := by decide +kernel
theorem dX10_isSaid_38 : decode cX10_isSaid 38 = .ok (.getfield 107, 3) := by decide +kernel
theorem dX10_isSaid_41 : decode cX10_isSaid 41 = .ok (.iload_n 2, 1) := by decide +kernel
theorem dX10_isSaid_42 : decode cX10_isSaid 42 = .ok (.iconst 1, 1) := by decide +kernel
theorem dX10_isSaid_43 : decode cX10_isSaid 43 = .ok (.isub, 1) := by decide +kernel
theorem dX10_isSaid_44 : decode cX10_isSaid 44 = .ok (.aload_n 0, 1) := by decide +kernel
theorem dX10_isSaid_45 : decode cX10_isSaid 45 = .ok (.getfield 107, 3) := by decide +kernel
theorem dX10_isSaid_48 : decode cX10_isSaid 48 = .ok (.iload_n 2, 1) := by decide +kernel
theorem dX10_isSaid_49 : decode cX10_isSaid 49 = .ok (.iconst 1, 1) := by decide +kernel
theorem dX10_isSaid_50 : decode cX10_isSaid 50 = .ok (.isub, 1) := by decide +kernel
theorem dX10_isSaid_51 : decode cX10_isSaid 51 = .ok (.baload, 1) := by decide +kernel
theorem dX10_isSaid_52 : decode cX10_isSaid 52 = .ok (.ifCond .ne 7, 3) := by decide +kernel
theorem dX10_isSaid_55 : decode cX10_isSaid 55 = .ok (.iconst 1, 1) := by decide +kernel
theorem dX10_isSaid_56 : decode cX10_isSaid 56 = .ok (.goto 4, 3) := by decide +kernel
theorem dX10_isSaid_59 : decode cX10_isSaid 59 = .ok (.iconst 0, 1) := by decide +kernel
theorem dX10_isSaid_60 : decode cX10_isSaid 60 = .ok (.bastore, 1) := by decide +kernel
theorem dX10_isSaid_61 : decode cX10_isSaid 61 = .ok (.goto 145, 3) := by decide +kernel
theorem dX10_isSaid_64 : decode cX10_isSaid 64 = .ok (.aload_n 0, 1) := by decide +kernel
theorem dX10_isSaid_65 : decode cX10_isSaid 65 = .ok (.getfield 37, 3) := by decide +kernel
theorem dX10_isSaid_68 : decode cX10_isSaid 68 = .ok (.iload 4, 2) := by decide +kernel
theorem dX10_isSaid_70 : decode cX10_isSaid 70 = .ok (.iaload, 1) := by decide +kernel
theorem dX10_isSaid_71 : decode cX10_isSaid 71 = .ok (.bipush 21, 2) := by decide +kernel
theorem dX10_isSaid_73 : decode cX10_isSaid 73 = .ok (.if_icmp .eq 15, 3) := by decide +kernel
theorem dX10_isSaid_76 : decode cX10_isSaid 76 = .ok (.aload_n 0, 1) := by decide +kernel
theorem dX10_isSaid_77 : decode cX10_isSaid 77 = .ok (.getfield 37, 3) := by decide +kernel
theorem dX10_isSaid_80 : decode cX10_isSaid 80 = .ok (.iload 4, 2) := by decide +kernel
theorem dX10_isSaid_82 : decode cX10_isSaid 82 = .ok (.iaload, 1) := by decide +kernel
theorem dX10_isSaid_83 : decode cX10_isSaid 83 = .ok (.bipush 22, 2) := by decide +kernel
theorem dX10_isSaid_85 : decode cX10_isSaid 85 = .ok (.if_icmp .ne 82, 3) := by decide +kernel
theorem dX10_isSaid_88 : decode cX10_isSaid 88 = .ok (.iinc 2 (-1), 3) := by decide +kernel
theorem dX10_isSaid_91 : decode cX10_isSaid 91 = .ok (.aload_n 0, 1) := by decide +kernel
theorem dX10_isSaid_92 : decode cX10_isSaid 92 = .ok (.getfield 107, 3) := by decide +kernel
theorem dX10_isSaid_95 : decode cX10_isSaid 95 = .ok (.iload_n 2, 1) := by decide +kernel
theorem dX10_isSaid_96 : decode cX10_isSaid 96 = .ok (.iconst 1, 1) := by decide +kernel
theorem dX10_isSaid_97 : decode cX10_isSaid 97 = .ok (.isub, 1) := by decide +kernel
theorem dX10_isSaid_98 : decode cX10_isSaid 98 = .ok (.aload_n 0, 1) := by decide +kernel
theorem dX10_isSaid_99 : decode cX10_isSaid 99 = .ok (.getfield 37, 3) := by decide +kernel
theorem dX10_isSaid_102 : decode cX10_isSaid 102 = .ok (.iload 4, 2) := by decide +kernel
theorem dX10_isSaid_104 : decode cX10_isSaid 104 = .ok (.iaload, 1) := by decide +kernel
theorem dX10_isSaid_105 : decode cX10_isSaid 105 = .ok (.bipush 21, 2) := by decide +kernel
theorem dX10_isSaid_107 : decode cX10_isSaid 107 = .ok (.if_icmp .ne 31, 3) := by decide +kernel
theorem dX10_isSaid_110 : decode cX10_isSaid 110 = .ok (.aload_n 0, 1) := by decide +kernel
theorem dX10_isSaid_111 : decode cX10_isSaid 111 = .ok (.getfield 107, 3) := by decide +kernel
theorem dX10_isSaid_114 : decode cX10_isSaid 114 = .ok (.iload_n 2, 1) := by decide +kernel
theorem dX10_isSaid_115 : decode cX10_isSaid 115 = .ok (.iconst 1, 1) := by decide +kernel
theorem dX10_isSaid_116 : decode cX10_isSaid 116 = .ok (.isub, 1) := by decide +kernel
theorem dX10_isSaid_117 : decode cX10_isSaid 117 = .ok (.baload, 1) := by decide +kernel
theorem dX10_isSaid_118 : decode cX10_isSaid 118 = .ok (.ifCond .eq 16, 3) := by decide +kernel
theorem dX10_isSaid_121 : decode cX10_isSaid 121 = .ok (.aload_n 0, 1) := by decide +kernel
theorem dX10_isSaid_122 : decode cX10_isSaid 122 = .ok (.getfield 107, 3) := by decide +kernel
theorem dX10_isSaid_125 : decode cX10_isSaid 125 = .ok (.iload_n 2, 1) := by decide +kernel
theorem dX10_isSaid_126 : decode cX10_isSaid 126 = .ok (.baload, 1) := by decide +kernel
theorem dX10_isSaid_127 : decode cX10_isSaid 127 = .ok (.ifCond .eq 7, 3) := by decide +kernel
theorem dX10_isSaid_130 : decode cX10_isSaid 130 = .ok (.iconst 1, 1) := by decide +kernel
theorem dX10_isSaid_131 : decode cX10_isSaid 131 = .ok (.goto 32, 3) := by decide +kernel
theorem dX10_isSaid_134 : decode cX10_isSaid 134 = .ok (.iconst 0, 1) := by decide +kernel
theorem dX10_isSaid_135 : decode cX10_isSaid 135 = .ok (.goto 28, 3) := by decide +kernel
theorem dX10_isSaid_138 : decode cX10_isSaid 138 = .ok (.aload_n 0, 1) := by decide +kernel
theorem dX10_isSaid_139 : decode cX10_isSaid 139 = .ok (.getfield 107, 3) := by decide +kernel
theorem dX10_isSaid_142 : decode cX10_isSaid 142 = .ok (.iload_n 2, 1) := by decide +kernel
theorem dX10_isSaid_143 : decode cX10_isSaid 143 = .ok (.iconst 1, 1) := by decide +kernel
theorem dX10_isSaid_144 : decode cX10_isSaid 144 = .ok (.isub, 1) := by decide +kernel
theorem dX10_isSaid_145 : decode cX10_isSaid 145 = .ok (.baload, 1) := by decide +kernel
theorem dX10_isSaid_146 : decode cX10_isSaid 146 = .ok (.ifCond .ne 12, 3) := by decide +kernel
theorem dX10_isSaid_149 : decode cX10_isSaid 149 = .ok (.aload_n 0, 1) := by decide +kernel
theorem dX10_isSaid_150 : decode cX10_isSaid 150 = .ok (.getfield 107, 3) := by decide +kernel
theorem dX10_isSaid_153 : decode cX10_isSaid 153 = .ok (.iload_n 2, 1) := by decide +kernel
theorem dX10_isSaid_154 : decode cX10_isSaid 154 = .ok (.baload, 1) := by decide +kernel
theorem dX10_isSaid_155 : decode cX10_isSaid 155 = .ok (.ifCond .eq 7, 3) := by decide +kernel
theorem dX10_isSaid_158 : decode cX10_isSaid 158 = .ok (.iconst 1, 1) := by decide +kernel
theorem dX10_isSaid_159 : decode cX10_isSaid 159 = .ok (.goto 4, 3) := by decide +kernel
theorem dX10_isSaid_162 : decode cX10_isSaid 162 = .ok (.iconst 0, 1) := by decide +kernel
theorem dX10_isSaid_163 : decode cX10_isSaid 163 = .ok (.bastore, 1) := by decide +kernel
theorem dX10_isSaid_164 : decode cX10_isSaid 164 = .ok (.goto 42, 3) := by decide +kernel
theorem dX10_isSaid_167 : decode cX10_isSaid 167 = .ok (.aload_n 0, 1) := by decide +kernel
theorem dX10_isSaid_168 : decode cX10_isSaid 168 = .ok (.getfield 107, 3) := by decide +kernel
theorem dX10_isSaid_171 : decode cX10_isSaid 171 = .ok (.iload_n 2, 1) := by decide +kernel
theorem dX10_isSaid_172 : decode cX10_isSaid 172 = .ok (.aload_n 0, 1) := by decide +kernel
theorem dX10_isSaid_173 : decode cX10_isSaid 173 = .ok (.iload_n 1, 1) := by decide +kernel
theorem dX10_isSaid_174 : decode cX10_isSaid 174 = .ok (.aload_n 0, 1) := by decide +kernel
theorem dX10_isSaid_175 : decode cX10_isSaid 175 = .ok (.getfield 37, 3) := by decide +kernel
theorem dX10_isSaid_178 : decode cX10_isSaid 178 = .ok (.iload 4, 2) := by decide +kernel
theorem dX10_isSaid_180 : decode cX10_isSaid 180 = .ok (.iaload, 1) := by decide +kernel
theorem dX10_isSaid_181 : decode cX10_isSaid 181 = .ok (.aload_n 0, 1) := by decide +kernel
theorem dX10_isSaid_182 : decode cX10_isSaid 182 = .ok (.getfield 37, 3) := by decide +kernel
theorem dX10_isSaid_185 : decode cX10_isSaid 185 = .ok (.iload 4, 2) := by decide +kernel
theorem dX10_isSaid_187 : decode cX10_isSaid 187 = .ok (.iconst 1, 1) := by decide +kernel
theorem dX10_isSaid_188 : decode cX10_isSaid 188 = .ok (.iadd, 1) := by decide +kernel
theorem dX10_isSaid_189 : decode cX10_isSaid 189 = .ok (.iaload, 1) := by decide +kernel
theorem dX10_isSaid_190 : decode cX10_isSaid 190 = .ok (.aload_n 0, 1) := by decide +kernel
theorem dX10_isSaid_191 : decode cX10_isSaid 191 = .ok (.getfield 37, 3) := by decide +kernel
theorem dX10_isSaid_194 : decode cX10_isSaid 194 = .ok (.iload 4, 2) := by decide +kernel
theorem dX10_isSaid_196 : decode cX10_isSaid 196 = .ok (.iconst 2, 1) := by decide +kernel
theorem dX10_isSaid_197 : decode cX10_isSaid 197 = .ok (.iadd, 1) := by decide +kernel
theorem dX10_isSaid_198 : decode cX10_isSaid 198 = .ok (.iaload, 1) := by decide +kernel
theorem dX10_isSaid_199 : decode cX10_isSaid 199 = .ok (.invokevirtual 475, 3) := by decide +kernel
theorem dX10_isSaid_202 : decode cX10_isSaid 202 = .ok (.bastore, 1) := by decide +kernel
theorem dX10_isSaid_203 : decode cX10_isSaid 203 = .ok (.iinc 2 1, 3) := by decide +kernel
theorem dX10_isSaid_206 : decode cX10_isSaid 206 = .ok (.iinc 3 1, 3) := by decide +kernel
theorem dX10_isSaid_209 : decode cX10_isSaid 209 = .ok (.goto (-205), 3) := by decide +kernel
theorem dX10_isSaid_212 : decode cX10_isSaid 212 = .ok (.aload_n 0, 1) := by decide +kernel
theorem dX10_isSaid_213 : decode cX10_isSaid 213 = .ok (.getfield 107, 3) := by decide +kernel
theorem dX10_isSaid_216 : decode cX10_isSaid 216 = .ok (.iconst 0, 1) := by decide +kernel
theorem dX10_isSaid_217 : decode cX10_isSaid 217 = .ok (.baload, 1) := by decide +kernel
theorem dX10_isSaid_218 : decode cX10_isSaid 218 = .ok (.ireturn, 1) := by decide +kernel
theorem dX10_said_0 : decode cX10_said 0 = .ok (.aload_n 0, 1) := by decide +kernel
theorem dX10_said_1 : decode cX10_said 1 = .ok (.iconst 0, 1) := by decide +kernel
theorem dX10_said_2 : decode cX10_said 2 = .ok (.putfield 1, 3) := by decide +kernel
theorem dX10_said_5 : decode cX10_said 5 = .ok (.aload_n 0, 1) := by decide +kernel
theorem dX10_said_6 : decode cX10_said 6 = .ok (.getfield 37, 3) := by decide +kernel
theorem dX10_said_9 : decode cX10_said 9 = .ok (.sipush 153, 3) := by decide +kernel
theorem dX10_said_12 : decode cX10_said 12 = .ok (.iaload, 1) := by decide +kernel
theorem dX10_said_13 : decode cX10_said 13 = .ok (.ifCond .eq 8, 3) := by decide +kernel
theorem dX10_said_16 : decode cX10_said 16 = .ok (.iload_n 1, 1) := by decide +kernel
theorem dX10_said_17 : decode cX10_said 17 = .ok (.iconst (-1), 1) := by decide +kernel
theorem dX10_said_18 : decode cX10_said 18 = .ok (.if_icmp .ge 5, 3) := by decide +kernel
theorem dX10_said_21 : decode cX10_said 21 = .ok (.iconst (-1), 1) := by decide +kernel
theorem dX10_said_22 : decode cX10_said 22 = .ok (.ireturn, 1) := by decide +kernel
theorem dX10_said_23 : decode cX10_said 23 = .ok (.iconst 0, 1) := by decide +kernel
theorem dX10_said_24 : decode cX10_said 24 = .ok (.istore_n 2, 1) := by decide +kernel
theorem dX10_said_25 : decode cX10_said 25 = .ok (.iconst 0, 1) := by decide +kernel
theorem dX10_said_26 : decode cX10_said 26 = .ok (.istore_n 3, 1) := by decide +kernel
theorem dX10_said_27 : decode cX10_said 27 = .ok (.iload_n 3, 1) := by decide +kernel
theorem dX10_said_28 : decode cX10_said 28 = .ok (.aload_n 0, 1) := by decide +kernel
theorem dX10_said_29 : decode cX10_said 29 = .ok (.getfield 37, 3) := by decide +kernel
theorem dX10_said_32 : decode cX10_said 32 = .ok (.iconst 5, 1) := by decide +kernel
theorem dX10_said_33 : decode cX10_said 33 = .ok (.iaload, 1) := by decide +kernel
theorem dX10_said_34 : decode cX10_said 34 = .ok (.if_icmp .ge 30, 3) := by decide +kernel
theorem dX10_said_37 : decode cX10_said 37 = .ok (.aload_n 0, 1) := by decide +kernel
theorem dX10_said_38 : decode cX10_said 38 = .ok (.iload_n 3, 1) := by decide +kernel
theorem dX10_said_39 : decode cX10_said 39 = .ok (.invokevirtual 478, 3) := by decide +kernel
theorem dX10_said_42 : decode cX10_said 42 = .ok (.ifCond .ne 6, 3) := by decide +kernel
theorem dX10_said_45 : decode cX10_said 45 = .ok (.goto 13, 3) := by decide +kernel
theorem dX10_said_48 : decode cX10_said 48 = .ok (.iload_n 2, 1) := by decide +kernel
theorem dX10_said_49 : decode cX10_said 49 = .ok (.iload_n 1, 1) := by decide +kernel
theorem dX10_said_50 : decode cX10_said 50 = .ok (.if_icmp .ne 5, 3) := by decide +kernel
theorem dX10_said_53 : decode cX10_said 53 = .ok (.iload_n 3, 1) := by decide +kernel
theorem dX10_said_54 : decode cX10_said 54 = .ok (.ireturn, 1) := by decide +kernel
theorem dX10_said_55 : decode cX10_said 55 = .ok (.iinc 2 1, 3) := by decide +kernel
theorem dX10_said_58 : decode cX10_said 58 = .ok (.iinc 3 1, 3) := by decide +kernel
theorem dX10_said_61 : decode cX10_said 61 = .ok (.goto (-34), 3) := by decide +kernel
theorem dX10_said_64 : decode cX10_said 64 = .ok (.iload_n 1, 1) := by decide +kernel
theorem dX10_said_65 : decode cX10_said 65 = .ok (.iconst (-1), 1) := by decide +kernel
theorem dX10_said_66 : decode cX10_said 66 = .ok (.if_icmp .ne 7, 3) := by decide +kernel
theorem dX10_said_69 : decode cX10_said 69 = .ok (.iload_n 2, 1) := by decide +kernel
theorem dX10_said_70 : decode cX10_said 70 = .ok (.goto 4, 3) := by decide +kernel
theorem dX10_said_73 : decode cX10_said 73 = .ok (.iconst (-1), 1) := by decide +kernel
theorem dX10_said_74 : decode cX10_said 74 = .ok (.ireturn, 1) := by decide +kernel
theorem dX10_image_0 : decode cX10_image 0 = .ok (.aload_n 0, 1) := by decide +kernel
theorem dX10_image_1 : decode cX10_image 1 = .ok (.iconst 0, 1) := by decide +kernel
theorem dX10_image_2 : decode cX10_image 2 = .ok (.putfield 1, 3) := by decide +kernel
theorem dX10_image_5 : decode cX10_image 5 = .ok (.iload_n 1, 1) := by decide +kernel
theorem dX10_image_6 : decode cX10_image 6 = .ok (.iconst 0, 1) := by decide +kernel
theorem dX10_image_7 : decode cX10_image 7 = .ok (.iconst 1, 1) := by decide +kernel
theorem dX10_image_8 : decode cX10_image 8 = .ok (.invokestatic 211, 3) := by decide +kernel
theorem dX10_image_11 : decode cX10_image 11 = .ok (.ifCond .ne 5, 3) := by decide +kernel
theorem dX10_image_14 : decode cX10_image 14 = .ok (.iconst 0, 1) := by decide +kernel
theorem dX10_image_15 : decode cX10_image 15 = .ok (.ireturn, 1) := by decide +kernel
theorem dX10_image_16 : decode cX10_image 16 = .ok (.iconst 0, 1) := by decide +kernel
theorem dX10_image_17 : decode cX10_image 17 = .ok (.istore_n 2, 1) := by decide +kernel
theorem dX10_image_18 : decode cX10_image 18 = .ok (.iload_n 2, 1) := by decide +kernel
theorem dX10_image_19 : decode cX10_image 19 = .ok (.sipush 335, 3) := by decide +kernel
theorem dX10_image_22 : decode cX10_image 22 = .ok (.if_icmp .ge 27, 3) := by decide +kernel
theorem dX10_image_25 : decode cX10_image 25 = .ok (.aload_n 0, 1) := by decide +kernel
theorem dX10_image_26 : decode cX10_image 26 = .ok (.getfield 111, 3) := by decide +kernel
theorem dX10_image_29 : decode cX10_image 29 = .ok (.sipush 335, 3) := by decide +kernel
theorem dX10_image_32 : decode cX10_image 32 = .ok (.iload_n 1, 1) := by decide +kernel
theorem dX10_image_33 : decode cX10_image 33 = .ok (.imul, 1) := by decide +kernel
theorem dX10_image_34 : decode cX10_image 34 = .ok (.iload_n 2, 1) := by decide +kernel
theorem dX10_image_35 : decode cX10_image 35 = .ok (.iadd, 1) := by decide +kernel
theorem dX10_image_36 : decode cX10_image 36 = .ok (.aload_n 0, 1) := by decide +kernel
theorem dX10_image_37 : decode cX10_image 37 = .ok (.getfield 37, 3) := by decide +kernel
theorem dX10_image_40 : decode cX10_image 40 = .ok (.iload_n 2, 1) := by decide +kernel
theorem dX10_image_41 : decode cX10_image 41 = .ok (.iaload, 1) := by decide +kernel
theorem dX10_image_42 : decode cX10_image 42 = .ok (.iastore, 1) := by decide +kernel
theorem dX10_image_43 : decode cX10_image 43 = .ok (.iinc 2 1, 3) := by decide +kernel
theorem dX10_image_46 : decode cX10_image 46 = .ok (.goto (-28), 3) := by decide +kernel
theorem dX10_image_49 : decode cX10_image 49 = .ok (.iconst 0, 1) := by decide +kernel
theorem dX10_image_50 : decode cX10_image 50 = .ok (.istore_n 2, 1) := by decide +kernel
theorem dX10_image_51 : decode cX10_image 51 = .ok (.iload_n 2, 1) := by decide +kernel
theorem dX10_image_52 : decode cX10_image 52 = .ok (.bipush 18, 2) := by decide +kernel
theorem dX10_image_54 : decode cX10_image 54 = .ok (.if_icmp .ge 26, 3) := by decide +kernel
theorem dX10_image_57 : decode cX10_image 57 = .ok (.aload_n 0, 1) := by decide +kernel
theorem dX10_image_58 : decode cX10_image 58 = .ok (.getfield 114, 3) := by decide +kernel
theorem dX10_image_61 : decode cX10_image 61 = .ok (.bipush 18, 2) := by decide +kernel
theorem dX10_image_63 : decode cX10_image 63 = .ok (.iload_n 1, 1) := by decide +kernel
theorem dX10_image_64 : decode cX10_image 64 = .ok (.imul, 1) := by decide +kernel
theorem dX10_image_65 : decode cX10_image 65 = .ok (.iload_n 2, 1) := by decide +kernel
theorem dX10_image_66 : decode cX10_image 66 = .ok (.iadd, 1) := by decide +kernel
theorem dX10_image_67 : decode cX10_image 67 = .ok (.aload_n 0, 1) := by decide +kernel
theorem dX10_image_68 : decode cX10_image 68 = .ok (.getfield 47, 3) := by decide +kernel
theorem dX10_image_71 : decode cX10_image 71 = .ok (.iload_n 2, 1) := by decide +kernel
theorem dX10_image_72 : decode cX10_image 72 = .ok (.laload, 1) := by decide +kernel
theorem dX10_image_73 : decode cX10_image 73 = .ok (.lastore, 1) := by decide +kernel
theorem dX10_image_74 : decode cX10_image 74 = .ok (.iinc 2 1, 3) := by decide +kernel
theorem dX10_image_77 : decode cX10_image 77 = .ok (.goto (-26), 3) := by decide +kernel
theorem dX10_image_80 : decode cX10_image 80 = .ok (.aload_n 0, 1) := by decide +kernel
theorem dX10_image_81 : decode cX10_image 81 = .ok (.getfield 117, 3) := by decide +kernel
theorem dX10_image_84 : decode cX10_image 84 = .ok (.iload_n 1, 1) := by decide +kernel
theorem dX10_image_85 : decode cX10_image 85 = .ok (.iconst 1, 1) := by decide +kernel
theorem dX10_image_86 : decode cX10_image 86 = .ok (.bastore, 1) := by decide +kernel
theorem dX10_image_87 : decode cX10_image 87 = .ok (.iconst 1, 1) := by decide +kernel
theorem dX10_image_88 : decode cX10_image 88 = .ok (.ireturn, 1) := by decide +kernel
theorem dX10_restore_0 : decode cX10_restore 0 = .ok (.aload_n 0, 1) := by decide +kernel
theorem dX10_restore_1 : decode cX10_restore 1 = .ok (.iconst 0, 1) := by decide +kernel
theorem dX10_restore_2 : decode cX10_restore 2 = .ok (.putfield 1, 3) := by decide +kernel
theorem dX10_restore_5 : decode cX10_restore 5 = .ok (.iload_n 1, 1) := by decide +kernel
theorem dX10_restore_6 : decode cX10_restore 6 = .ok (.iconst 0, 1) := by decide +kernel
theorem dX10_restore_7 : decode cX10_restore 7 = .ok (.iconst 1, 1) := by decide +kernel
theorem dX10_restore_8 : decode cX10_restore 8 = .ok (.invokestatic 211, 3) := by decide +kernel
theorem dX10_restore_11 : decode cX10_restore 11 = .ok (.ifCond .eq 12, 3) := by decide +kernel
theorem dX10_restore_14 : decode cX10_restore 14 = .ok (.aload_n 0, 1) := by decide +kernel
theorem dX10_restore_15 : decode cX10_restore 15 = .ok (.getfield 117, 3) := by decide +kernel
theorem dX10_restore_18 : decode cX10_restore 18 = .ok (.iload_n 1, 1) := by decide +kernel
theorem dX10_restore_19 : decode cX10_restore 19 = .ok (.baload, 1) := by decide +kernel
theorem dX10_restore_20 : decode cX10_restore 20 = .ok (.ifCond .ne 5, 3) := by decide +kernel
theorem dX10_restore_23 : decode cX10_restore 23 = .ok (.iconst 0, 1) := by decide +kernel
theorem dX10_restore_24 : decode cX10_restore 24 = .ok (.ireturn, 1) := by decide +kernel
theorem dX10_restore_25 : decode cX10_restore 25 = .ok (.iconst 0, 1) := by decide +kernel
theorem dX10_restore_26 : decode cX10_restore 26 = .ok (.istore_n 2, 1) := by decide +kernel
theorem dX10_restore_27 : decode cX10_restore 27 = .ok (.iload_n 2, 1) := by decide +kernel
theorem dX10_restore_28 : decode cX10_restore 28 = .ok (.sipush 335, 3) := by decide +kernel
theorem dX10_restore_31 : decode cX10_restore 31 = .ok (.if_icmp .ge 27, 3) := by decide +kernel
theorem dX10_restore_34 : decode cX10_restore 34 = .ok (.aload_n 0, 1) := by decide +kernel
theorem dX10_restore_35 : decode cX10_restore 35 = .ok (.getfield 37, 3) := by decide +kernel
theorem dX10_restore_38 : decode cX10_restore 38 = .ok (.iload_n 2, 1) := by decide +kernel
theorem dX10_restore_39 : decode cX10_restore 39 = .ok (.aload_n 0, 1) := by decide +kernel
theorem dX10_restore_40 : decode cX10_restore 40 = .ok (.getfield 111, 3) := by decide +kernel
theorem dX10_restore_43 : decode cX10_restore 43 = .ok (.sipush 335, 3) := by decide +kernel
theorem dX10_restore_46 : decode cX10_restore 46 = .ok (.iload_n 1, 1) := by decide +kernel
theorem dX10_restore_47 : decode cX10_restore 47 = .ok (.imul, 1) := by decide +kernel
theorem dX10_restore_48 : decode cX10_restore 48 = .ok (.iload_n 2, 1) := by decide +kernel
theorem dX10_restore_49 : decode cX10_restore 49 = .ok (.iadd, 1) := by decide +kernel
theorem dX10_restore_50 : decode cX10_restore 50 = .ok (.iaload, 1) := by decide +kernel
theorem dX10_restore_51 : decode cX10_restore 51 = .ok (.iastore, 1) := by decide +kernel
theorem dX10_restore_52 : decode cX10_restore 52 = .ok (.iinc 2 1, 3) := by decide +kernel
theorem dX10_restore_55 : decode cX10_restore 55 = .ok (.goto (-28), 3) := by decide +kernel
theorem dX10_restore_58 : decode cX10_restore 58 = .ok (.iconst 0, 1) := by decide +kernel
theorem dX10_restore_59 : decode cX10_restore 59 = .ok (.istore_n 2, 1) := by decide +kernel
theorem dX10_restore_60 : decode cX10_restore 60 = .ok (.iload_n 2, 1) := by decide +kernel
theorem dX10_restore_61 : decode cX10_restore 61 = .ok (.bipush 18, 2) := by decide +kernel
theorem dX10_restore_63 : decode cX10_restore 63 = .ok (.if_icmp .ge 26, 3) := by decide +kernel
theorem dX10_restore_66 : decode cX10_restore 66 = .ok (.aload_n 0, 1) := by decide +kernel
theorem dX10_restore_67 : decode cX10_restore 67 = .ok (.getfield 47, 3) := by decide +kernel
theorem dX10_restore_70 : decode cX10_restore 70 = .ok (.iload_n 2, 1) := by decide +kernel
theorem dX10_restore_71 : decode cX10_restore 71 = .ok (.aload_n 0, 1) := by decide +kernel
theorem dX10_restore_72 : decode cX10_restore 72 = .ok (.getfield 114, 3) := by decide +kernel
theorem dX10_restore_75 : decode cX10_restore 75 = .ok (.bipush 18, 2) := by decide +kernel
theorem dX10_restore_77 : decode cX10_restore 77 = .ok (.iload_n 1, 1) := by decide +kernel
theorem dX10_restore_78 : decode cX10_restore 78 = .ok (.imul, 1) := by decide +kernel
theorem dX10_restore_79 : decode cX10_restore 79 = .ok (.iload_n 2, 1) := by decide +kernel
theorem dX10_restore_80 : decode cX10_restore 80 = .ok (.iadd, 1) := by decide +kernel
theorem dX10_restore_81 : decode cX10_restore 81 = .ok (.laload, 1) := by decide +kernel
theorem dX10_restore_82 : decode cX10_restore 82 = .ok (.lastore, 1) := by decide +kernel
theorem dX10_restore_83 : decode cX10_restore 83 = .ok (.iinc 2 1, 3) := by decide +kernel
theorem dX10_restore_86 : decode cX10_restore 86 = .ok (.goto (-26), 3) := by decide +kernel
theorem dX10_restore_89 : decode cX10_restore 89 = .ok (.aload_n 0, 1) := by decide +kernel
theorem dX10_restore_90 : decode cX10_restore 90 = .ok (.iconst 0, 1) := by decide +kernel
theorem dX10_restore_91 : decode cX10_restore 91 = .ok (.putfield 263, 3) := by decide +kernel
theorem dX10_restore_94 : decode cX10_restore 94 = .ok (.iconst 1, 1) := by decide +kernel
theorem dX10_restore_95 : decode cX10_restore 95 = .ok (.ireturn, 1) := by decide +kernel
theorem dX10_count_0 : decode cX10_count 0 = .ok (.aload_n 0, 1) := by decide +kernel
theorem dX10_count_1 : decode cX10_count 1 = .ok (.iconst 0, 1) := by decide +kernel
theorem dX10_count_2 : decode cX10_count 2 = .ok (.putfield 1, 3) := by decide +kernel
theorem dX10_count_5 : decode cX10_count 5 = .ok (.iload_n 1, 1) := by decide +kernel
theorem dX10_count_6 : decode cX10_count 6 = .ok (.tableswitch 85 8 12 #[34, 42, 64, 72, 80], 34) := by decide +kernel
theorem dX10_count_40 : decode cX10_count 40 = .ok (.aload_n 0, 1) := by decide +kernel
theorem dX10_count_41 : decode cX10_count 41 = .ok (.getfield 37, 3) := by decide +kernel
theorem dX10_count_44 : decode cX10_count 44 = .ok (.bipush 113, 2) := by decide +kernel
theorem dX10_count_46 : decode cX10_count 46 = .ok (.iaload, 1) := by decide +kernel
theorem dX10_count_47 : decode cX10_count 47 = .ok (.ireturn, 1) := by decide +kernel
theorem dX10_count_48 : decode cX10_count 48 = .ok (.aload_n 0, 1) := by decide +kernel
theorem dX10_count_49 : decode cX10_count 49 = .ok (.getfield 37, 3) := by decide +kernel
theorem dX10_count_52 : decode cX10_count 52 = .ok (.bipush 7, 2) := by decide +kernel
theorem dX10_count_54 : decode cX10_count 54 = .ok (.iaload, 1) := by decide +kernel
theorem dX10_count_55 : decode cX10_count 55 = .ok (.ifCond .ne 7, 3) := by decide +kernel
theorem dX10_count_58 : decode cX10_count 58 = .ok (.iconst (-1), 1) := by decide +kernel
theorem dX10_count_59 : decode cX10_count 59 = .ok (.goto 10, 3) := by decide +kernel
theorem dX10_count_62 : decode cX10_count 62 = .ok (.aload_n 0, 1) := by decide +kernel
theorem dX10_count_63 : decode cX10_count 63 = .ok (.getfield 37, 3) := by decide +kernel
theorem dX10_count_66 : decode cX10_count 66 = .ok (.bipush 114, 2) := by decide +kernel
theorem dX10_count_68 : decode cX10_count 68 = .ok (.iaload, 1) := by decide +kernel
theorem dX10_count_69 : decode cX10_count 69 = .ok (.ireturn, 1) := by decide +kernel
theorem dX10_count_70 : decode cX10_count 70 = .ok (.aload_n 0, 1) := by decide +kernel
theorem dX10_count_71 : decode cX10_count 71 = .ok (.getfield 37, 3) := by decide +kernel
theorem dX10_count_74 : decode cX10_count 74 = .ok (.bipush 115, 2) := by decide +kernel
theorem dX10_count_76 : decode cX10_count 76 = .ok (.iaload, 1) := by decide +kernel
theorem dX10_count_77 : decode cX10_count 77 = .ok (.ireturn, 1) := by decide +kernel
theorem dX10_count_78 : decode cX10_count 78 = .ok (.aload_n 0, 1) := by decide +kernel
theorem dX10_count_79 : decode cX10_count 79 = .ok (.getfield 37, 3) := by decide +kernel
theorem dX10_count_82 : decode cX10_count 82 = .ok (.bipush 104, 2) := by decide +kernel
theorem dX10_count_84 : decode cX10_count 84 = .ok (.iaload, 1) := by decide +kernel
theorem dX10_count_85 : decode cX10_count 85 = .ok (.ireturn, 1) := by decide +kernel
theorem dX10_count_86 : decode cX10_count 86 = .ok (.aload_n 0, 1) := by decide +kernel
theorem dX10_count_87 : decode cX10_count 87 = .ok (.getfield 7, 3) := by decide +kernel
theorem dX10_count_90 : decode cX10_count 90 = .ok (.ireturn, 1) := by decide +kernel
theorem dX10_count_91 : decode cX10_count 91 = .ok (.iload_n 1, 1) := by decide +kernel
theorem dX10_count_92 : decode cX10_count 92 = .ok (.iconst 0, 1) := by decide +kernel
theorem dX10_count_93 : decode cX10_count 93 = .ok (.bipush 7, 2) := by decide +kernel
theorem dX10_count_95 : decode cX10_count 95 = .ok (.invokestatic 211, 3) := by decide +kernel
theorem dX10_count_98 : decode cX10_count 98 = .ok (.ifCond .eq 12, 3) := by decide +kernel
theorem dX10_count_101 : decode cX10_count 101 = .ok (.aload_n 0, 1) := by decide +kernel
theorem dX10_count_102 : decode cX10_count 102 = .ok (.getfield 37, 3) := by decide +kernel
theorem dX10_count_105 : decode cX10_count 105 = .ok (.iload_n 1, 1) := by decide +kernel
theorem dX10_count_106 : decode cX10_count 106 = .ok (.iaload, 1) := by decide +kernel
theorem dX10_count_107 : decode cX10_count 107 = .ok (.goto 4, 3) := by decide +kernel
theorem dX10_count_110 : decode cX10_count 110 = .ok (.iconst (-1), 1) := by decide +kernel
theorem dX10_count_111 : decode cX10_count 111 = .ok (.ireturn, 1) := by decide +kernel
theorem dJ6_bitCount_0f7a4_0 : decode cJ6_bitCount_0f7a4 0 = .ok (.iload_n 0, 1) := by decide +kernel
theorem dJ6_bitCount_0f7a4_1 : decode cJ6_bitCount_0f7a4 1 = .ok (.iload_n 0, 1) := by decide +kernel
theorem dJ6_bitCount_0f7a4_2 : decode cJ6_bitCount_0f7a4 2 = .ok (.iconst 1, 1) := by decide +kernel
theorem dJ6_bitCount_0f7a4_3 : decode cJ6_bitCount_0f7a4 3 = .ok (.iushr, 1) := by decide +kernel
theorem dJ6_bitCount_0f7a4_4 : decode cJ6_bitCount_0f7a4 4 = .ok (.ldc_w 265, 3) := by decide +kernel
theorem dJ6_bitCount_0f7a4_7 : decode cJ6_bitCount_0f7a4 7 = .ok (.iand, 1) := by decide +kernel
theorem dJ6_bitCount_0f7a4_8 : decode cJ6_bitCount_0f7a4 8 = .ok (.isub, 1) := by decide +kernel
theorem dJ6_bitCount_0f7a4_9 : decode cJ6_bitCount_0f7a4 9 = .ok (.istore_n 0, 1) := by decide +kernel
theorem dJ6_bitCount_0f7a4_10 : decode cJ6_bitCount_0f7a4 10 = .ok (.iload_n 0, 1) := by decide +kernel
theorem dJ6_bitCount_0f7a4_11 : decode cJ6_bitCount_0f7a4 11 = .ok (.ldc_w 266, 3) := by decide +kernel
theorem dJ6_bitCount_0f7a4_14 : decode cJ6_bitCount_0f7a4 14 = .ok (.iand, 1) := by decide +kernel
theorem dJ6_bitCount_0f7a4_15 : decode cJ6_bitCount_0f7a4 15 = .ok (.iload_n 0, 1) := by decide +kernel
theorem dJ6_bitCount_0f7a4_16 : decode cJ6_bitCount_0f7a4 16 = .ok (.iconst 2, 1) := by decide +kernel
theorem dJ6_bitCount_0f7a4_17 : decode cJ6_bitCount_0f7a4 17 = .ok (.iushr, 1) := by decide +kernel
theorem dJ6_bitCount_0f7a4_18 : decode cJ6_bitCount_0f7a4 18 = .ok (.ldc_w 266, 3) := by decide +kernel
theorem dJ6_bitCount_0f7a4_21 : decode cJ6_bitCount_0f7a4 21 = .ok (.iand, 1) := by decide +kernel
theorem dJ6_bitCount_0f7a4_22 : decode cJ6_bitCount_0f7a4 22 = .ok (.iadd, 1) := by decide +kernel
theorem dJ6_bitCount_0f7a4_23 : decode cJ6_bitCount_0f7a4 23 = .ok (.istore_n 0, 1) := by decide +kernel
theorem dJ6_bitCount_0f7a4_24 : decode cJ6_bitCount_0f7a4 24 = .ok (.iload_n 0, 1) := by decide +kernel
theorem dJ6_bitCount_0f7a4_25 : decode cJ6_bitCount_0f7a4 25 = .ok (.iload_n 0, 1) := by decide +kernel
theorem dJ6_bitCount_0f7a4_26 : decode cJ6_bitCount_0f7a4 26 = .ok (.iconst 4, 1) := by decide +kernel
theorem dJ6_bitCount_0f7a4_27 : decode cJ6_bitCount_0f7a4 27 = .ok (.iushr, 1) := by decide +kernel
theorem dJ6_bitCount_0f7a4_28 : decode cJ6_bitCount_0f7a4 28 = .ok (.iadd, 1) := by decide +kernel
theorem dJ6_bitCount_0f7a4_29 : decode cJ6_bitCount_0f7a4 29 = .ok (.ldc_w 267, 3) := by decide +kernel
theorem dJ6_bitCount_0f7a4_32 : decode cJ6_bitCount_0f7a4 32 = .ok (.iand, 1) := by decide +kernel
theorem dJ6_bitCount_0f7a4_33 : decode cJ6_bitCount_0f7a4 33 = .ok (.istore_n 0, 1) := by decide +kernel
theorem dJ6_bitCount_0f7a4_34 : decode cJ6_bitCount_0f7a4 34 = .ok (.iload_n 0, 1) := by decide +kernel
theorem dJ6_bitCount_0f7a4_35 : decode cJ6_bitCount_0f7a4 35 = .ok (.iload_n 0, 1) := by decide +kernel
theorem dJ6_bitCount_0f7a4_36 : decode cJ6_bitCount_0f7a4 36 = .ok (.bipush 8, 2) := by decide +kernel
theorem dJ6_bitCount_0f7a4_38 : decode cJ6_bitCount_0f7a4 38 = .ok (.iushr, 1) := by decide +kernel
theorem dJ6_bitCount_0f7a4_39 : decode cJ6_bitCount_0f7a4 39 = .ok (.iadd, 1) := by decide +kernel
theorem dJ6_bitCount_0f7a4_40 : decode cJ6_bitCount_0f7a4 40 = .ok (.istore_n 0, 1) := by decide +kernel
theorem dJ6_bitCount_0f7a4_41 : decode cJ6_bitCount_0f7a4 41 = .ok (.iload_n 0, 1) := by decide +kernel
theorem dJ6_bitCount_0f7a4_42 : decode cJ6_bitCount_0f7a4 42 = .ok (.iload_n 0, 1) := by decide +kernel
theorem dJ6_bitCount_0f7a4_43 : decode cJ6_bitCount_0f7a4 43 = .ok (.bipush 16, 2) := by decide +kernel
theorem dJ6_bitCount_0f7a4_45 : decode cJ6_bitCount_0f7a4 45 = .ok (.iushr, 1) := by decide +kernel
theorem dJ6_bitCount_0f7a4_46 : decode cJ6_bitCount_0f7a4 46 = .ok (.iadd, 1) := by decide +kernel
theorem dJ6_bitCount_0f7a4_47 : decode cJ6_bitCount_0f7a4 47 = .ok (.istore_n 0, 1) := by decide +kernel
theorem dJ6_bitCount_0f7a4_48 : decode cJ6_bitCount_0f7a4 48 = .ok (.iload_n 0, 1) := by decide +kernel
theorem dJ6_bitCount_0f7a4_49 : decode cJ6_bitCount_0f7a4 49 = .ok (.bipush 63, 2) := by decide +kernel
theorem dJ6_bitCount_0f7a4_51 : decode cJ6_bitCount_0f7a4 51 = .ok (.iand, 1) := by decide +kernel
theorem dJ6_bitCount_0f7a4_52 : decode cJ6_bitCount_0f7a4 52 = .ok (.ireturn, 1) := by decide +kernel
theorem dJ9_abs_0f7a4_0 : decode cJ9_abs_0f7a4 0 = .ok (.iload_n 0, 1) := by decide +kernel
theorem dJ9_abs_0f7a4_1 : decode cJ9_abs_0f7a4 1 = .ok (.ifCond .ge 8, 3) := by decide +kernel
theorem dJ9_abs_0f7a4_4 : decode cJ9_abs_0f7a4 4 = .ok (.iload_n 0, 1) := by decide +kernel
theorem dJ9_abs_0f7a4_5 : decode cJ9_abs_0f7a4 5 = .ok (.ineg, 1) := by decide +kernel
theorem dJ9_abs_0f7a4_6 : decode cJ9_abs_0f7a4 6 = .ok (.goto 4, 3) := by decide +kernel
theorem dJ9_abs_0f7a4_9 : decode cJ9_abs_0f7a4 9 = .ok (.iload_n 0, 1) := by decide +kernel
theorem dJ9_abs_0f7a4_10 : decode cJ9_abs_0f7a4 10 = .ok (.ireturn, 1) := by decide +kernel
theorem dJ9_max_7cf53_0 : decode cJ9_max_7cf53 0 = .ok (.iload_n 0, 1) := by decide +kernel
theorem dJ9_max_7cf53_1 : decode cJ9_max_7cf53 1 = .ok (.iload_n 1, 1) := by decide +kernel
theorem dJ9_max_7cf53_2 : decode cJ9_max_7cf53 2 = .ok (.if_icmp .lt 7, 3) := by decide +kernel
theorem dJ9_max_7cf53_5 : decode cJ9_max_7cf53 5 = .ok (.iload_n 0, 1) := by decide +kernel
theorem dJ9_max_7cf53_6 : decode cJ9_max_7cf53 6 = .ok (.goto 4, 3) := by decide +kernel
theorem dJ9_max_7cf53_9 : decode cJ9_max_7cf53 9 = .ok (.iload_n 1, 1) := by decide +kernel
theorem dJ9_max_7cf53_10 : decode cJ9_max_7cf53 10 = .ok (.ireturn, 1) := by decide +kernel
theorem dJ9_min_7cf53_0 : decode cJ9_min_7cf53 0 = .ok (.iload_n 0, 1) := by decide +kernel
theorem dJ9_min_7cf53_1 : decode cJ9_min_7cf53 1 = .ok (.iload_n 1, 1) := by decide +kernel
theorem dJ9_min_7cf53_2 : decode cJ9_min_7cf53 2 = .ok (.if_icmp .gt 7, 3) := by decide +kernel
theorem dJ9_min_7cf53_5 : decode cJ9_min_7cf53 5 = .ok (.iload_n 0, 1) := by decide +kernel
theorem dJ9_min_7cf53_6 : decode cJ9_min_7cf53 6 = .ok (.goto 4, 3) := by decide +kernel
theorem dJ9_min_7cf53_9 : decode cJ9_min_7cf53 9 = .ok (.iload_n 1, 1) := by decide +kernel
theorem dJ9_min_7cf53_10 : decode cJ9_min_7cf53 10 = .ok (.ireturn, 1) := by decide +kernel
theorem dJ9_min_f86c9_0 : decode cJ9_min_f86c9 0 = .ok (.lload_n 0, 1) := by decide +kernel
theorem dJ9_min_f86c9_1 : decode cJ9_min_f86c9 1 = .ok (.lload_n 2, 1) := by decide +kernel
theorem dJ9_min_f86c9_2 : decode cJ9_min_f86c9 2 = .ok (.lcmp, 1) := by decide +kernel
theorem dJ9_min_f86c9_3 : decode cJ9_min_f86c9 3 = .ok (.ifCond .gt 7, 3) := by decide +kernel
theorem dJ9_min_f86c9_6 : decode cJ9_min_f86c9 6 = .ok (.lload_n 0, 1) := by decide +kernel
theorem dJ9_min_f86c9_7 : decode cJ9_min_f86c9 7 = .ok (.goto 4, 3) := by decide +kernel
theorem dJ9_min_f86c9_10 : decode cJ9_min_f86c9 10 = .ok (.lload_n 2, 1) := by decide +kernel
theorem dJ9_min_f86c9_11 : decode cJ9_min_f86c9 11 = .ok (.lreturn, 1) := by decide +kernel
theorem dJ0_length_8abf5_0 : decode cJ0_length_8abf5 0 = .ok (.aload_n 0, 1) := by decide +kernel
theorem dJ0_length_8abf5_1 : decode cJ0_length_8abf5 1 = .ok (.getfield 9, 3) := by decide +kernel
theorem dJ0_length_8abf5_4 : decode cJ0_length_8abf5 4 = .ok (.arraylength, 1) := by decide +kernel
theorem dJ0_length_8abf5_5 : decode cJ0_length_8abf5 5 = .ok (.aload_n 0, 1) := by decide +kernel
theorem dJ0_length_8abf5_6 : decode cJ0_length_8abf5 6 = .ok (.invokevirtual 335, 3) := by decide +kernel
theorem dJ0_length_8abf5_9 : decode cJ0_length_8abf5 9 = .ok (.ishr, 1) := by decide +kernel
theorem dJ0_length_8abf5_10 : decode cJ0_length_8abf5 10 = .ok (.ireturn, 1) := by decide +kernel
theorem dJ0_charAt_5068e_0 : decode cJ0_charAt_5068e 0 = .ok (.aload_n 0, 1) := by decide +kernel
theorem dJ0_charAt_5068e_1 : decode cJ0_charAt_5068e 1 = .ok (.invokevirtual 492, 3) := by decide +kernel
theorem dJ0_charAt_5068e_4 : decode cJ0_charAt_5068e 4 = .ok (.ifCond .eq 12, 3) := by decide +kernel
theorem dJ0_charAt_5068e_7 : decode cJ0_charAt_5068e 7 = .ok (.aload_n 0, 1) := by decide +kernel
theorem dJ0_charAt_5068e_8 : decode cJ0_charAt_5068e 8 = .ok (.getfield 9, 3) := by decide +kernel
theorem dJ0_charAt_5068e_11 : decode cJ0_charAt_5068e 11 = .ok (.iload_n 1, 1) := by decide +kernel
theorem dJ0_charAt_5068e_12 : decode cJ0_charAt_5068e 12 = .ok (.invokestatic 495, 3) := by decide +kernel
theorem dJ0_charAt_5068e_15 : decode cJ0_charAt_5068e 15 = .ok (.ireturn, 1) := by decide +kernel
theorem dJ0_charAt_5068e_16 : decode cJ0_charAt_5068e 16 = .ok (.aload_n 0, 1) := by decide +kernel
theorem dJ0_charAt_5068e_17 : decode cJ0_charAt_5068e 17 = .ok (.getfield 9, 3) := by decide +kernel
theorem dJ0_charAt_5068e_20 : decode cJ0_charAt_5068e 20 = .ok (.iload_n 1, 1) := by decide +kernel
theorem dJ0_charAt_5068e_21 : decode cJ0_charAt_5068e 21 = .ok (.invokestatic 498, 3) := by decide +kernel
theorem dJ0_charAt_5068e_24 : decode cJ0_charAt_5068e 24 = .ok (.ireturn, 1) := by decide +kernel
theorem dJ0_coder_7d493_0 : decode cJ0_coder_7d493 0 = .ok (.getstatic 38, 3) := by decide +kernel
theorem dJ0_coder_7d493_3 : decode cJ0_coder_7d493 3 = .ok (.ifCond .eq 10, 3) := by decide +kernel
theorem dJ0_coder_7d493_6 : decode cJ0_coder_7d493 6 = .ok (.aload_n 0, 1) := by decide +kernel
theorem dJ0_coder_7d493_7 : decode cJ0_coder_7d493 7 = .ok (.getfield 15, 3) := by decide +kernel
theorem dJ0_coder_7d493_10 : decode cJ0_coder_7d493 10 = .ok (.goto 4, 3) := by decide +kernel
theorem dJ0_coder_7d493_13 : decode cJ0_coder_7d493 13 = .ok (.iconst 1, 1) := by decide +kernel
theorem dJ0_coder_7d493_14 : decode cJ0_coder_7d493 14 = .ok (.ireturn, 1) := by decide +kernel
theorem dJ0_isLatin1_aae02_0 : decode cJ0_isLatin1_aae02 0 = .ok (.getstatic 38, 3) := by decide +kernel
theorem dJ0_isLatin1_aae02_3 : decode cJ0_isLatin1_aae02 3 = .ok (.ifCond .eq 14, 3) := by decide +kernel
theorem dJ0_isLatin1_aae02_6 : decode cJ0_isLatin1_aae02 6 = .ok (.aload_n 0, 1) := by decide +kernel
theorem dJ0_isLatin1_aae02_7 : decode cJ0_isLatin1_aae02 7 = .ok (.getfield 15, 3) := by decide +kernel
theorem dJ0_isLatin1_aae02_10 : decode cJ0_isLatin1_aae02 10 = .ok (.ifCond .ne 7, 3) := by decide +kernel
theorem dJ0_isLatin1_aae02_13 : decode cJ0_isLatin1_aae02 13 = .ok (.iconst 1, 1) := by decide +kernel
theorem dJ0_isLatin1_aae02_14 : decode cJ0_isLatin1_aae02 14 = .ok (.goto 4, 3) := by decide +kernel
theorem dJ0_isLatin1_aae02_17 : decode cJ0_isLatin1_aae02 17 = .ok (.iconst 0, 1) := by decide +kernel
theorem dJ0_isLatin1_aae02_18 : decode cJ0_isLatin1_aae02 18 = .ok (.ireturn, 1) := by decide +kernel
theorem dJ0_checkIndex_df160_0 : decode cJ0_checkIndex_df160 0 = .ok (.iload_n 0, 1) := by decide +kernel
theorem dJ0_checkIndex_df160_1 : decode cJ0_checkIndex_df160 1 = .ok (.iload_n 1, 1) := by decide +kernel
theorem dJ0_checkIndex_df160_2 : decode cJ0_checkIndex_df160 2 = .ok (.getstatic 1053, 3) := by decide +kernel
theorem dJ0_checkIndex_df160_5 : decode cJ0_checkIndex_df160 5 = .ok (.invokestatic 1059, 3) := by decide +kernel
theorem dJ0_checkIndex_df160_8 : decode cJ0_checkIndex_df160 8 = .ok (.pop, 1) := by decide +kernel
theorem dJ0_checkIndex_df160_9 : decode cJ0_checkIndex_df160 9 = .ok (.return_, 1) := by decide +kernel
theorem dJ1_charAt_3b067_0 : decode cJ1_charAt_3b067 0 = .ok (.iload_n 1, 1) := by decide +kernel
theorem dJ1_charAt_3b067_1 : decode cJ1_charAt_3b067 1 = .ok (.aload_n 0, 1) := by decide +kernel
theorem dJ1_charAt_3b067_2 : decode cJ1_charAt_3b067 2 = .ok (.arraylength, 1) := by decide +kernel
theorem dJ1_charAt_3b067_3 : decode cJ1_charAt_3b067 3 = .ok (.invokestatic 9, 3) := by decide +kernel
theorem dJ1_charAt_3b067_6 : decode cJ1_charAt_3b067 6 = .ok (.aload_n 0, 1) := by decide +kernel
theorem dJ1_charAt_3b067_7 : decode cJ1_charAt_3b067 7 = .ok (.iload_n 1, 1) := by decide +kernel
theorem dJ1_charAt_3b067_8 : decode cJ1_charAt_3b067 8 = .ok (.baload, 1) := by decide +kernel
theorem dJ1_charAt_3b067_9 : decode cJ1_charAt_3b067 9 = .ok (.sipush 255, 3) := by decide +kernel
theorem dJ1_charAt_3b067_12 : decode cJ1_charAt_3b067 12 = .ok (.iand, 1) := by decide +kernel
theorem dJ1_charAt_3b067_13 : decode cJ1_charAt_3b067 13 = .ok (.i2c, 1) := by decide +kernel
theorem dJ1_charAt_3b067_14 : decode cJ1_charAt_3b067 14 = .ok (.ireturn, 1) := by decide +kernel
theorem dJ2_getChar_3b067_0 : decode cJ2_getChar_3b067 0 = .ok (.getstatic 44, 3) := by decide +kernel
theorem dJ2_getChar_3b067_3 : decode cJ2_getChar_3b067 3 = .ok (.ifCond .ne 25, 3) := by decide +kernel
theorem dJ2_getChar_3b067_6 : decode cJ2_getChar_3b067 6 = .ok (.iload_n 1, 1) := by decide +kernel
theorem dJ2_getChar_3b067_7 : decode cJ2_getChar_3b067 7 = .ok (.ifCond .lt 11, 3) := by decide +kernel
theorem dJ2_getChar_3b067_10 : decode cJ2_getChar_3b067 10 = .ok (.iload_n 1, 1) := by decide +kernel
theorem dJ2_getChar_3b067_11 : decode cJ2_getChar_3b067 11 = .ok (.aload_n 0, 1) := by decide +kernel
theorem dJ2_getChar_3b067_12 : decode cJ2_getChar_3b067 12 = .ok (.invokestatic 48, 3) := by decide +kernel
theorem dJ2_getChar_3b067_15 : decode cJ2_getChar_3b067 15 = .ok (.if_icmp .lt 13, 3) := by decide +kernel
theorem dJ2_getChar_3b067_18 : decode cJ2_getChar_3b067 18 = .ok (.new 52, 3) := by decide +kernel
theorem dJ2_getChar_3b067_21 : decode cJ2_getChar_3b067 21 = .ok (.dup, 1) := by decide +kernel
theorem dJ2_getChar_3b067_22 : decode cJ2_getChar_3b067 22 = .ok (.ldc 54, 2) := by decide +kernel
theorem dJ2_getChar_3b067_24 : decode cJ2_getChar_3b067 24 = .ok (.invokespecial 56, 3) := by decide +kernel
theorem dJ2_getChar_3b067_27 : decode cJ2_getChar_3b067 27 = .ok (.athrow, 1) := by decide +kernel
theorem dJ2_getChar_3b067_28 : decode cJ2_getChar_3b067 28 = .ok (.iload_n 1, 1) := by decide +kernel
theorem dJ2_getChar_3b067_29 : decode cJ2_getChar_3b067 29 = .ok (.iconst 1, 1) := by decide +kernel
theorem dJ2_getChar_3b067_30 : decode cJ2_getChar_3b067 30 = .ok (.ishl, 1) := by decide +kernel
theorem dJ2_getChar_3b067_31 : decode cJ2_getChar_3b067 31 = .ok (.istore_n 1, 1) := by decide +kernel
theorem dJ2_getChar_3b067_32 : decode cJ2_getChar_3b067 32 = .ok (.aload_n 0, 1) := by decide +kernel
theorem dJ2_getChar_3b067_33 : decode cJ2_getChar_3b067 33 = .ok (.iload_n 1, 1) := by decide +kernel
theorem dJ2_getChar_3b067_34 : decode cJ2_getChar_3b067 34 = .ok (.iinc 1 1, 3) := by decide +kernel
theorem dJ2_getChar_3b067_37 : decode cJ2_getChar_3b067 37 = .ok (.baload, 1) := by decide +kernel
theorem dJ2_getChar_3b067_38 : decode cJ2_getChar_3b067 38 = .ok (.sipush 255, 3) := by decide +kernel
theorem dJ2_getChar_3b067_41 : decode cJ2_getChar_3b067 41 = .ok (.iand, 1) := by decide +kernel
theorem dJ2_getChar_3b067_42 : decode cJ2_getChar_3b067 42 = .ok (.getstatic 59, 3) := by decide +kernel
theorem dJ2_getChar_3b067_45 : decode cJ2_getChar_3b067 45 = .ok (.ishl, 1) := by decide +kernel
theorem dJ2_getChar_3b067_46 : decode cJ2_getChar_3b067 46 = .ok (.aload_n 0, 1) := by decide +kernel
theorem dJ2_getChar_3b067_47 : decode cJ2_getChar_3b067 47 = .ok (.iload_n 1, 1) := by decide +kernel
theorem dJ2_getChar_3b067_48 : decode cJ2_getChar_3b067 48 = .ok (.baload, 1) := by decide +kernel
theorem dJ2_getChar_3b067_49 : decode cJ2_getChar_3b067 49 = .ok (.sipush 255, 3) := by decide +kernel
theorem dJ2_getChar_3b067_52 : decode cJ2_getChar_3b067 52 = .ok (.iand, 1) := by decide +kernel
theorem dJ2_getChar_3b067_53 : decode cJ2_getChar_3b067 53 = .ok (.getstatic 63, 3) := by decide +kernel
theorem dJ2_getChar_3b067_56 : decode cJ2_getChar_3b067 56 = .ok (.ishl, 1) := by decide +kernel
theorem dJ2_getChar_3b067_57 : decode cJ2_getChar_3b067 57 = .ok (.ior, 1) := by decide +kernel
theorem dJ2_getChar_3b067_58 : decode cJ2_getChar_3b067 58 = .ok (.i2c, 1) := by decide +kernel
theorem dJ2_getChar_3b067_59 : decode cJ2_getChar_3b067 59 = .ok (.ireturn, 1) := by decide +kernel
theorem dJ2_length_9d52b_0 : decode cJ2_length_9d52b 0 = .ok (.aload_n 0, 1) := by decide +kernel
theorem dJ2_length_9d52b_1 : decode cJ2_length_9d52b 1 = .ok (.arraylength, 1) := by decide +kernel
theorem dJ2_length_9d52b_2 : decode cJ2_length_9d52b 2 = .ok (.iconst 1, 1) := by decide +kernel
theorem dJ2_length_9d52b_3 : decode cJ2_length_9d52b 3 = .ok (.ishr, 1) := by decide +kernel
theorem dJ2_length_9d52b_4 : decode cJ2_length_9d52b 4 = .ok (.ireturn, 1) := by decide +kernel
theorem dJ2_charAt_3b067_0 : decode cJ2_charAt_3b067 0 = .ok (.iload_n 1, 1) := by decide +kernel
theorem dJ2_charAt_3b067_1 : decode cJ2_charAt_3b067 1 = .ok (.aload_n 0, 1) := by decide +kernel
theorem dJ2_charAt_3b067_2 : decode cJ2_charAt_3b067 2 = .ok (.invokestatic 67, 3) := by decide +kernel
theorem dJ2_charAt_3b067_5 : decode cJ2_charAt_3b067 5 = .ok (.aload_n 0, 1) := by decide +kernel
theorem dJ2_charAt_3b067_6 : decode cJ2_charAt_3b067 6 = .ok (.iload_n 1, 1) := by decide +kernel
theorem dJ2_charAt_3b067_7 : decode cJ2_charAt_3b067 7 = .ok (.invokestatic 71, 3) := by decide +kernel
theorem dJ2_charAt_3b067_10 : decode cJ2_charAt_3b067 10 = .ok (.ireturn, 1) := by decide +kernel
theorem dJ2_checkIndex_2214a_0 : decode cJ2_checkIndex_2214a 0 = .ok (.iload_n 0, 1) := by decide +kernel
theorem dJ2_checkIndex_2214a_1 : decode cJ2_checkIndex_2214a 1 = .ok (.aload_n 1, 1) := by decide +kernel
theorem dJ2_checkIndex_2214a_2 : decode cJ2_checkIndex_2214a 2 = .ok (.invokestatic 48, 3) := by decide +kernel
theorem dJ2_checkIndex_2214a_5 : decode cJ2_checkIndex_2214a 5 = .ok (.invokestatic 414, 3) := by decide +kernel
theorem dJ2_checkIndex_2214a_8 : decode cJ2_checkIndex_2214a 8 = .ok (.return_, 1) := by decide +kernel
theorem dJ7_fill_d0a16_0 : decode cJ7_fill_d0a16 0 = .ok (.iconst 0, 1) := by decide +kernel
theorem dJ7_fill_d0a16_1 : decode cJ7_fill_d0a16 1 = .ok (.istore_n 3, 1) := by decide +kernel
theorem dJ7_fill_d0a16_2 : decode cJ7_fill_d0a16 2 = .ok (.aload_n 0, 1) := by decide +kernel
theorem dJ7_fill_d0a16_3 : decode cJ7_fill_d0a16 3 = .ok (.arraylength, 1) := by decide +kernel
theorem dJ7_fill_d0a16_4 : decode cJ7_fill_d0a16 4 = .ok (.istore 4, 2) := by decide +kernel
theorem dJ7_fill_d0a16_6 : decode cJ7_fill_d0a16 6 = .ok (.iload_n 3, 1) := by decide +kernel
theorem dJ7_fill_d0a16_7 : decode cJ7_fill_d0a16 7 = .ok (.iload 4, 2) := by decide +kernel
theorem dJ7_fill_d0a16_9 : decode cJ7_fill_d0a16 9 = .ok (.if_icmp .ge 13, 3) := by decide +kernel
theorem dJ7_fill_d0a16_12 : decode cJ7_fill_d0a16 12 = .ok (.aload_n 0, 1) := by decide +kernel
theorem dJ7_fill_d0a16_13 : decode cJ7_fill_d0a16 13 = .ok (.iload_n 3, 1) := by decide +kernel
theorem dJ7_fill_d0a16_14 : decode cJ7_fill_d0a16 14 = .ok (.lload_n 1, 1) := by decide +kernel
theorem dJ7_fill_d0a16_15 : decode cJ7_fill_d0a16 15 = .ok (.lastore, 1) := by decide +kernel
theorem dJ7_fill_d0a16_16 : decode cJ7_fill_d0a16 16 = .ok (.iinc 3 1, 3) := by decide +kernel
theorem dJ7_fill_d0a16_19 : decode cJ7_fill_d0a16 19 = .ok (.goto (-13), 3) := by decide +kernel
theorem dJ7_fill_d0a16_22 : decode cJ7_fill_d0a16 22 = .ok (.return_, 1) := by decide +kernel
theorem dJ7_fill_53178_0 : decode cJ7_fill_53178 0 = .ok (.iconst 0, 1) := by decide +kernel
theorem dJ7_fill_53178_1 : decode cJ7_fill_53178 1 = .ok (.istore_n 2, 1) := by decide +kernel
theorem dJ7_fill_53178_2 : decode cJ7_fill_53178 2 = .ok (.aload_n 0, 1) := by decide +kernel
theorem dJ7_fill_53178_3 : decode cJ7_fill_53178 3 = .ok (.arraylength, 1) := by decide +kernel
theorem dJ7_fill_53178_4 : decode cJ7_fill_53178 4 = .ok (.istore_n 3, 1) := by decide +kernel
theorem dJ7_fill_53178_5 : decode cJ7_fill_53178 5 = .ok (.iload_n 2, 1) := by decide +kernel
theorem dJ7_fill_53178_6 : decode cJ7_fill_53178 6 = .ok (.iload_n 3, 1) := by decide +kernel
theorem dJ7_fill_53178_7 : decode cJ7_fill_53178 7 = .ok (.if_icmp .ge 13, 3) := by decide +kernel
theorem dJ7_fill_53178_10 : decode cJ7_fill_53178 10 = .ok (.aload_n 0, 1) := by decide +kernel
theorem dJ7_fill_53178_11 : decode cJ7_fill_53178 11 = .ok (.iload_n 2, 1) := by decide +kernel
theorem dJ7_fill_53178_12 : decode cJ7_fill_53178 12 = .ok (.iload_n 1, 1) := by decide +kernel
theorem dJ7_fill_53178_13 : decode cJ7_fill_53178 13 = .ok (.iastore, 1) := by decide +kernel
theorem dJ7_fill_53178_14 : decode cJ7_fill_53178 14 = .ok (.iinc 2 1, 3) := by decide +kernel
theorem dJ7_fill_53178_17 : decode cJ7_fill_53178 17 = .ok (.goto (-12), 3) := by decide +kernel
theorem dJ7_fill_53178_20 : decode cJ7_fill_53178 20 = .ok (.return_, 1) := by decide +kernel
theorem dJ3_checkIndex_8e157_0 : decode cJ3_checkIndex_8e157 0 = .ok (.iload_n 0, 1) := by decide +kernel
theorem dJ3_checkIndex_8e157_1 : decode cJ3_checkIndex_8e157 1 = .ok (.ifCond .lt 8, 3) := by decide +kernel
theorem dJ3_checkIndex_8e157_4 : decode cJ3_checkIndex_8e157 4 = .ok (.iload_n 0, 1) := by decide +kernel
theorem dJ3_checkIndex_8e157_5 : decode cJ3_checkIndex_8e157 5 = .ok (.iload_n 1, 1) := by decide +kernel
theorem dJ3_checkIndex_8e157_6 : decode cJ3_checkIndex_8e157 6 = .ok (.if_icmp .lt 10, 3) := by decide +kernel
theorem dJ3_checkIndex_8e157_9 : decode cJ3_checkIndex_8e157 9 = .ok (.aload_n 2, 1) := by decide +kernel
theorem dJ3_checkIndex_8e157_10 : decode cJ3_checkIndex_8e157 10 = .ok (.iload_n 0, 1) := by decide +kernel
theorem dJ3_checkIndex_8e157_11 : decode cJ3_checkIndex_8e157 11 = .ok (.iload_n 1, 1) := by decide +kernel
theorem dJ3_checkIndex_8e157_12 : decode cJ3_checkIndex_8e157 12 = .ok (.invokestatic 95, 3) := by decide +kernel
theorem dJ3_checkIndex_8e157_15 : decode cJ3_checkIndex_8e157 15 = .ok (.athrow, 1) := by decide +kernel
theorem dJ3_checkIndex_8e157_16 : decode cJ3_checkIndex_8e157 16 = .ok (.iload_n 0, 1) := by decide +kernel
theorem dJ3_checkIndex_8e157_17 : decode cJ3_checkIndex_8e157 17 = .ok (.ireturn, 1) := by decide +kernel
