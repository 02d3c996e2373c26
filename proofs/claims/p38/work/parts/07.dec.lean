theorem dX10_throwsIf_0 : decode cX10_throwsIf 0 = .ok (.aload_n 0, 1) := by decide +kernel
theorem dX10_throwsIf_1 : decode cX10_throwsIf 1 = .ok (.iload_n 1, 1) := by decide +kernel
theorem dX10_throwsIf_2 : decode cX10_throwsIf 2 = .ok (.ifCond .eq 7, 3) := by decide +kernel
theorem dX10_throwsIf_5 : decode cX10_throwsIf 5 = .ok (.iconst 1, 1) := by decide +kernel
theorem dX10_throwsIf_6 : decode cX10_throwsIf 6 = .ok (.goto 4, 3) := by decide +kernel
theorem dX10_throwsIf_9 : decode cX10_throwsIf 9 = .ok (.iconst 0, 1) := by decide +kernel
theorem dX10_throwsIf_10 : decode cX10_throwsIf 10 = .ok (.putfield 1, 3) := by decide +kernel
theorem dX10_throwsIf_13 : decode cX10_throwsIf 13 = .ok (.iload_n 1, 1) := by decide +kernel
theorem dX10_throwsIf_14 : decode cX10_throwsIf 14 = .ok (.ireturn, 1) := by decide +kernel
theorem dX10_feed_0 : decode cX10_feed 0 = .ok (.aload_n 0, 1) := by decide +kernel
theorem dX10_feed_1 : decode cX10_feed 1 = .ok (.iconst 0, 1) := by decide +kernel
theorem dX10_feed_2 : decode cX10_feed 2 = .ok (.putfield 1, 3) := by decide +kernel
theorem dX10_feed_5 : decode cX10_feed 5 = .ok (.aload_n 0, 1) := by decide +kernel
theorem dX10_feed_6 : decode cX10_feed 6 = .ok (.getfield 7, 3) := by decide +kernel
theorem dX10_feed_9 : decode cX10_feed 9 = .ok (.bipush 20, 2) := by decide +kernel
theorem dX10_feed_11 : decode cX10_feed 11 = .ok (.iadd, 1) := by decide +kernel
theorem dX10_feed_12 : decode cX10_feed 12 = .ok (.sipush 940, 3) := by decide +kernel
theorem dX10_feed_15 : decode cX10_feed 15 = .ok (.if_icmp .le 5, 3) := by decide +kernel
theorem dX10_feed_18 : decode cX10_feed 18 = .ok (.iconst (-1), 1) := by decide +kernel
theorem dX10_feed_19 : decode cX10_feed 19 = .ok (.ireturn, 1) := by decide +kernel
theorem dX10_feed_20 : decode cX10_feed 20 = .ok (.aload_n 0, 1) := by decide +kernel
theorem dX10_feed_21 : decode cX10_feed 21 = .ok (.iload_n 1, 1) := by decide +kernel
theorem dX10_feed_22 : decode cX10_feed 22 = .ok (.invokevirtual 10, 3) := by decide +kernel
theorem dX10_feed_25 : decode cX10_feed 25 = .ok (.aload_n 0, 1) := by decide +kernel
theorem dX10_feed_26 : decode cX10_feed 26 = .ok (.iload_n 2, 1) := by decide +kernel
theorem dX10_feed_27 : decode cX10_feed 27 = .ok (.invokevirtual 10, 3) := by decide +kernel
theorem dX10_feed_30 : decode cX10_feed 30 = .ok (.aload_n 0, 1) := by decide +kernel
theorem dX10_feed_31 : decode cX10_feed 31 = .ok (.iload_n 3, 1) := by decide +kernel
theorem dX10_feed_32 : decode cX10_feed 32 = .ok (.invokevirtual 10, 3) := by decide +kernel
theorem dX10_feed_35 : decode cX10_feed 35 = .ok (.aload_n 0, 1) := by decide +kernel
theorem dX10_feed_36 : decode cX10_feed 36 = .ok (.iload 4, 2) := by decide +kernel
theorem dX10_feed_38 : decode cX10_feed 38 = .ok (.invokevirtual 10, 3) := by decide +kernel
theorem dX10_feed_41 : decode cX10_feed 41 = .ok (.aload_n 0, 1) := by decide +kernel
theorem dX10_feed_42 : decode cX10_feed 42 = .ok (.iload 5, 2) := by decide +kernel
theorem dX10_feed_44 : decode cX10_feed 44 = .ok (.invokevirtual 10, 3) := by decide +kernel
theorem dX10_feed_47 : decode cX10_feed 47 = .ok (.aload_n 0, 1) := by decide +kernel
theorem dX10_feed_48 : decode cX10_feed 48 = .ok (.getfield 7, 3) := by decide +kernel
theorem dX10_feed_51 : decode cX10_feed 51 = .ok (.ireturn, 1) := by decide +kernel
theorem dX10_bytes4_0 : decode cX10_bytes4 0 = .ok (.bipush 24, 2) := by decide +kernel
theorem dX10_bytes4_2 : decode cX10_bytes4 2 = .ok (.istore_n 2, 1) := by decide +kernel
theorem dX10_bytes4_3 : decode cX10_bytes4 3 = .ok (.iload_n 2, 1) := by decide +kernel
theorem dX10_bytes4_4 : decode cX10_bytes4 4 = .ok (.ifCond .lt 32, 3) := by decide +kernel
theorem dX10_bytes4_7 : decode cX10_bytes4 7 = .ok (.aload_n 0, 1) := by decide +kernel
theorem dX10_bytes4_8 : decode cX10_bytes4 8 = .ok (.getfield 14, 3) := by decide +kernel
theorem dX10_bytes4_11 : decode cX10_bytes4 11 = .ok (.aload_n 0, 1) := by decide +kernel
theorem dX10_bytes4_12 : decode cX10_bytes4 12 = .ok (.getfield 7, 3) := by decide +kernel
theorem dX10_bytes4_15 : decode cX10_bytes4 15 = .ok (.iload_n 1, 1) := by decide +kernel
theorem dX10_bytes4_16 : decode cX10_bytes4 16 = .ok (.iload_n 2, 1) := by decide +kernel
theorem dX10_bytes4_17 : decode cX10_bytes4 17 = .ok (.ishr, 1) := by decide +kernel
theorem dX10_bytes4_18 : decode cX10_bytes4 18 = .ok (.i2b, 1) := by decide +kernel
theorem dX10_bytes4_19 : decode cX10_bytes4 19 = .ok (.bastore, 1) := by decide +kernel
theorem dX10_bytes4_20 : decode cX10_bytes4 20 = .ok (.aload_n 0, 1) := by decide +kernel
theorem dX10_bytes4_21 : decode cX10_bytes4 21 = .ok (.dup, 1) := by decide +kernel
theorem dX10_bytes4_22 : decode cX10_bytes4 22 = .ok (.getfield 7, 3) := by decide +kernel
theorem dX10_bytes4_25 : decode cX10_bytes4 25 = .ok (.iconst 1, 1) := by decide +kernel
theorem dX10_bytes4_26 : decode cX10_bytes4 26 = .ok (.iadd, 1) := by decide +kernel
theorem dX10_bytes4_27 : decode cX10_bytes4 27 = .ok (.putfield 7, 3) := by decide +kernel
theorem dX10_bytes4_30 : decode cX10_bytes4 30 = .ok (.iinc 2 (-8), 3) := by decide +kernel
theorem dX10_bytes4_33 : decode cX10_bytes4 33 = .ok (.goto (-30), 3) := by decide +kernel
theorem dX10_bytes4_36 : decode cX10_bytes4 36 = .ok (.return_, 1) := by decide +kernel
theorem dX10_end_0 : decode cX10_end 0 = .ok (.aload_n 0, 1) := by decide +kernel
theorem dX10_end_1 : decode cX10_end 1 = .ok (.iconst 0, 1) := by decide +kernel
theorem dX10_end_2 : decode cX10_end 2 = .ok (.putfield 1, 3) := by decide +kernel
theorem dX10_end_5 : decode cX10_end 5 = .ok (.iload_n 1, 1) := by decide +kernel
theorem dX10_end_6 : decode cX10_end 6 = .ok (.ifCond .lt 11, 3) := by decide +kernel
theorem dX10_end_9 : decode cX10_end 9 = .ok (.iload_n 1, 1) := by decide +kernel
theorem dX10_end_10 : decode cX10_end 10 = .ok (.aload_n 0, 1) := by decide +kernel
theorem dX10_end_11 : decode cX10_end 11 = .ok (.getfield 7, 3) := by decide +kernel
theorem dX10_end_14 : decode cX10_end 14 = .ok (.if_icmp .le 5, 3) := by decide +kernel
theorem dX10_end_17 : decode cX10_end 17 = .ok (.iconst 0, 1) := by decide +kernel
theorem dX10_end_18 : decode cX10_end 18 = .ok (.ireturn, 1) := by decide +kernel
theorem dX10_end_19 : decode cX10_end 19 = .ok (.aload_n 0, 1) := by decide +kernel
theorem dX10_end_20 : decode cX10_end 20 = .ok (.iload_n 1, 1) := by decide +kernel
theorem dX10_end_21 : decode cX10_end 21 = .ok (.putfield 7, 3) := by decide +kernel
theorem dX10_end_24 : decode cX10_end 24 = .ok (.iconst 1, 1) := by decide +kernel
theorem dX10_end_25 : decode cX10_end 25 = .ok (.ireturn, 1) := by decide +kernel
theorem dX10_taken_0 : decode cX10_taken 0 = .ok (.aload_n 0, 1) := by decide +kernel
theorem dX10_taken_1 : decode cX10_taken 1 = .ok (.aload_n 0, 1) := by decide +kernel
theorem dX10_taken_2 : decode cX10_taken 2 = .ok (.getfield 7, 3) := by decide +kernel
theorem dX10_taken_5 : decode cX10_taken 5 = .ok (.putfield 18, 3) := by decide +kernel
theorem dX10_taken_8 : decode cX10_taken 8 = .ok (.aload_n 0, 1) := by decide +kernel
theorem dX10_taken_9 : decode cX10_taken 9 = .ok (.iconst 0, 1) := by decide +kernel
theorem dX10_taken_10 : decode cX10_taken 10 = .ok (.putfield 7, 3) := by decide +kernel
theorem dX10_taken_13 : decode cX10_taken 13 = .ok (.aload_n 0, 1) := by decide +kernel
theorem dX10_taken_14 : decode cX10_taken 14 = .ok (.iconst 0, 1) := by decide +kernel
theorem dX10_taken_15 : decode cX10_taken 15 = .ok (.putfield 21, 3) := by decide +kernel
theorem dX10_taken_18 : decode cX10_taken 18 = .ok (.aload_n 0, 1) := by decide +kernel
theorem dX10_taken_19 : decode cX10_taken 19 = .ok (.iload_n 1, 1) := by decide +kernel
theorem dX10_taken_20 : decode cX10_taken 20 = .ok (.putfield 24, 3) := by decide +kernel
theorem dX10_taken_23 : decode cX10_taken 23 = .ok (.return_, 1) := by decide +kernel
theorem dX10_isIn_0 : decode cX10_isIn 0 = .ok (.iload_n 0, 1) := by decide +kernel
theorem dX10_isIn_1 : decode cX10_isIn 1 = .ok (.iload_n 1, 1) := by decide +kernel
theorem dX10_isIn_2 : decode cX10_isIn 2 = .ok (.if_icmp .lt 12, 3) := by decide +kernel
theorem dX10_isIn_5 : decode cX10_isIn 5 = .ok (.iload_n 0, 1) := by decide +kernel
theorem dX10_isIn_6 : decode cX10_isIn 6 = .ok (.iload_n 2, 1) := by decide +kernel
theorem dX10_isIn_7 : decode cX10_isIn 7 = .ok (.if_icmp .gt 7, 3) := by decide +kernel
theorem dX10_isIn_10 : decode cX10_isIn 10 = .ok (.iconst 1, 1) := by decide +kernel
theorem dX10_isIn_11 : decode cX10_isIn 11 = .ok (.goto 4, 3) := by decide +kernel
theorem dX10_isIn_14 : decode cX10_isIn 14 = .ok (.iconst 0, 1) := by decide +kernel
theorem dX10_isIn_15 : decode cX10_isIn 15 = .ok (.ireturn, 1) := by decide +kernel
theorem dX10_bitOf_0 : decode cX10_bitOf 0 = .ok (.iload_n 0, 1) := by decide +kernel
theorem dX10_bitOf_1 : decode cX10_bitOf 1 = .ok (.iload_n 1, 1) := by decide +kernel
theorem dX10_bitOf_2 : decode cX10_bitOf 2 = .ok (.ishr, 1) := by decide +kernel
theorem dX10_bitOf_3 : decode cX10_bitOf 3 = .ok (.iconst 1, 1) := by decide +kernel
theorem dX10_bitOf_4 : decode cX10_bitOf 4 = .ok (.iand, 1) := by decide +kernel
theorem dX10_bitOf_5 : decode cX10_bitOf 5 = .ok (.iconst 1, 1) := by decide +kernel
theorem dX10_bitOf_6 : decode cX10_bitOf 6 = .ok (.if_icmp .ne 7, 3) := by decide +kernel
theorem dX10_bitOf_9 : decode cX10_bitOf 9 = .ok (.iconst 1, 1) := by decide +kernel
theorem dX10_bitOf_10 : decode cX10_bitOf 10 = .ok (.goto 4, 3) := by decide +kernel
theorem dX10_bitOf_13 : decode cX10_bitOf 13 = .ok (.iconst 0, 1) := by decide +kernel
theorem dX10_bitOf_14 : decode cX10_bitOf 14 = .ok (.ireturn, 1) := by decide +kernel
theorem dX10_off_0 : decode cX10_off 0 = .ok (.iload_n 0, 1) := by decide +kernel
theorem dX10_off_1 : decode cX10_off 1 = .ok (.iload_n 1, 1) := by decide +kernel
theorem dX10_off_2 : decode cX10_off 2 = .ok (.if_icmp .ge 9, 3) := by decide +kernel
theorem dX10_off_5 : decode cX10_off 5 = .ok (.iload_n 1, 1) := by decide +kernel
theorem dX10_off_6 : decode cX10_off 6 = .ok (.iload_n 0, 1) := by decide +kernel
theorem dX10_off_7 : decode cX10_off 7 = .ok (.isub, 1) := by decide +kernel
theorem dX10_off_8 : decode cX10_off 8 = .ok (.goto 6, 3) := by decide +kernel
theorem dX10_off_11 : decode cX10_off 11 = .ok (.iload_n 0, 1) := by decide +kernel
theorem dX10_off_12 : decode cX10_off 12 = .ok (.iload_n 1, 1) := by decide +kernel
theorem dX10_off_13 : decode cX10_off 13 = .ok (.isub, 1) := by decide +kernel
theorem dX10_off_14 : decode cX10_off 14 = .ok (.ireturn, 1) := by decide +kernel
theorem dX10_lesser_0 : decode cX10_lesser 0 = .ok (.iload_n 0, 1) := by decide +kernel
theorem dX10_lesser_1 : decode cX10_lesser 1 = .ok (.iload_n 1, 1) := by decide +kernel
theorem dX10_lesser_2 : decode cX10_lesser 2 = .ok (.if_icmp .ge 7, 3) := by decide +kernel
theorem dX10_lesser_5 : decode cX10_lesser 5 = .ok (.iload_n 0, 1) := by decide +kernel
theorem dX10_lesser_6 : decode cX10_lesser 6 = .ok (.goto 4, 3) := by decide +kernel
theorem dX10_lesser_9 : decode cX10_lesser 9 = .ok (.iload_n 1, 1) := by decide +kernel
theorem dX10_lesser_10 : decode cX10_lesser 10 = .ok (.ireturn, 1) := by decide +kernel
theorem dX10_bounded_0 : decode cX10_bounded 0 = .ok (.iload_n 0, 1) := by decide +kernel
theorem dX10_bounded_1 : decode cX10_bounded 1 = .ok (.bipush 10, 2) := by decide +kernel
theorem dX10_bounded_3 : decode cX10_bounded 3 = .ok (.if_icmp .ge 8, 3) := by decide +kernel
theorem dX10_bounded_6 : decode cX10_bounded 6 = .ok (.bipush 10, 2) := by decide +kernel
theorem dX10_bounded_8 : decode cX10_bounded 8 = .ok (.goto 10, 3) := by decide +kernel
theorem dX10_bounded_11 : decode cX10_bounded 11 = .ok (.iload_n 0, 1) := by decide +kernel
theorem dX10_bounded_12 : decode cX10_bounded 12 = .ok (.sipush 250, 3) := by decide +kernel
theorem dX10_bounded_15 : decode cX10_bounded 15 = .ok (.invokestatic 27, 3) := by decide +kernel
theorem dX10_bounded_18 : decode cX10_bounded 18 = .ok (.ireturn, 1) := by decide +kernel
theorem dX10_octet_0 : decode cX10_octet 0 = .ok (.aload_n 0, 1) := by decide +kernel
theorem dX10_octet_1 : decode cX10_octet 1 = .ok (.getfield 14, 3) := by decide +kernel
theorem dX10_octet_4 : decode cX10_octet 4 = .ok (.iload_n 1, 1) := by decide +kernel
theorem dX10_octet_5 : decode cX10_octet 5 = .ok (.baload, 1) := by decide +kernel
theorem dX10_octet_6 : decode cX10_octet 6 = .ok (.sipush 255, 3) := by decide +kernel
theorem dX10_octet_9 : decode cX10_octet 9 = .ok (.iand, 1) := by decide +kernel
theorem dX10_octet_10 : decode cX10_octet 10 = .ok (.ireturn, 1) := by decide +kernel
theorem dX10_clears_0 : decode cX10_clears 0 = .ok (.iconst 0, 1) := by decide +kernel
theorem dX10_clears_1 : decode cX10_clears 1 = .ok (.istore_n 1, 1) := by decide +kernel
theorem dX10_clears_2 : decode cX10_clears 2 = .ok (.iload_n 1, 1) := by decide +kernel
theorem dX10_clears_3 : decode cX10_clears 3 = .ok (.bipush 104, 2) := by decide +kernel
theorem dX10_clears_5 : decode cX10_clears 5 = .ok (.if_icmp .ge 16, 3) := by decide +kernel
theorem dX10_clears_8 : decode cX10_clears 8 = .ok (.aload_n 0, 1) := by decide +kernel
theorem dX10_clears_9 : decode cX10_clears 9 = .ok (.getfield 41, 3) := by decide +kernel
theorem dX10_clears_12 : decode cX10_clears 12 = .ok (.iload_n 1, 1) := by decide +kernel
theorem dX10_clears_13 : decode cX10_clears 13 = .ok (.iconst 0, 1) := by decide +kernel
theorem dX10_clears_14 : decode cX10_clears 14 = .ok (.iastore, 1) := by decide +kernel
theorem dX10_clears_15 : decode cX10_clears 15 = .ok (.iinc 1 1, 3) := by decide +kernel
theorem dX10_clears_18 : decode cX10_clears 18 = .ok (.goto (-16), 3) := by decide +kernel
theorem dX10_clears_21 : decode cX10_clears 21 = .ok (.aload_n 0, 1) := by decide +kernel
theorem dX10_clears_22 : decode cX10_clears 22 = .ok (.getfield 41, 3) := by decide +kernel
theorem dX10_clears_25 : decode cX10_clears 25 = .ok (.iconst 0, 1) := by decide +kernel
theorem dX10_clears_26 : decode cX10_clears 26 = .ok (.bipush 40, 2) := by decide +kernel
theorem dX10_clears_28 : decode cX10_clears 28 = .ok (.iastore, 1) := by decide +kernel
theorem dX10_clears_29 : decode cX10_clears 29 = .ok (.aload_n 0, 1) := by decide +kernel
theorem dX10_clears_30 : decode cX10_clears 30 = .ok (.getfield 41, 3) := by decide +kernel
theorem dX10_clears_33 : decode cX10_clears 33 = .ok (.iconst 1, 1) := by decide +kernel
theorem dX10_clears_34 : decode cX10_clears 34 = .ok (.sipush 210, 3) := by decide +kernel
theorem dX10_clears_37 : decode cX10_clears 37 = .ok (.iastore, 1) := by decide +kernel
theorem dX10_clears_38 : decode cX10_clears 38 = .ok (.aload_n 0, 1) := by decide +kernel
theorem dX10_clears_39 : decode cX10_clears 39 = .ok (.getfield 41, 3) := by decide +kernel
theorem dX10_clears_42 : decode cX10_clears 42 = .ok (.iconst 2, 1) := by decide +kernel
theorem dX10_clears_43 : decode cX10_clears 43 = .ok (.sipush 630, 3) := by decide +kernel
theorem dX10_clears_46 : decode cX10_clears 46 = .ok (.iastore, 1) := by decide +kernel
theorem dX10_clears_47 : decode cX10_clears 47 = .ok (.aload_n 0, 1) := by decide +kernel
theorem dX10_clears_48 : decode cX10_clears 48 = .ok (.getfield 41, 3) := by decide +kernel
theorem dX10_clears_51 : decode cX10_clears 51 = .ok (.iconst 3, 1) := by decide +kernel
theorem dX10_clears_52 : decode cX10_clears 52 = .ok (.iconst 2, 1) := by decide +kernel
theorem dX10_clears_53 : decode cX10_clears 53 = .ok (.iastore, 1) := by decide +kernel
theorem dX10_clears_54 : decode cX10_clears 54 = .ok (.aload_n 0, 1) := by decide +kernel
theorem dX10_clears_55 : decode cX10_clears 55 = .ok (.getfield 41, 3) := by decide +kernel
theorem dX10_clears_58 : decode cX10_clears 58 = .ok (.iconst 4, 1) := by decide +kernel
theorem dX10_clears_59 : decode cX10_clears 59 = .ok (.iconst 5, 1) := by decide +kernel
theorem dX10_clears_60 : decode cX10_clears 60 = .ok (.iastore, 1) := by decide +kernel
theorem dX10_clears_61 : decode cX10_clears 61 = .ok (.return_, 1) := by decide +kernel
theorem dX10_peek_0 : decode cX10_peek 0 = .ok (.aload_n 0, 1) := by decide +kernel
theorem dX10_peek_1 : decode cX10_peek 1 = .ok (.getfield 21, 3) := by decide +kernel
theorem dX10_peek_4 : decode cX10_peek 4 = .ok (.aload_n 0, 1) := by decide +kernel
theorem dX10_peek_5 : decode cX10_peek 5 = .ok (.getfield 18, 3) := by decide +kernel
theorem dX10_peek_8 : decode cX10_peek 8 = .ok (.if_icmp .ge 19, 3) := by decide +kernel
theorem dX10_peek_11 : decode cX10_peek 11 = .ok (.aload_n 0, 1) := by decide +kernel
theorem dX10_peek_12 : decode cX10_peek 12 = .ok (.getfield 14, 3) := by decide +kernel
theorem dX10_peek_15 : decode cX10_peek 15 = .ok (.aload_n 0, 1) := by decide +kernel
theorem dX10_peek_16 : decode cX10_peek 16 = .ok (.getfield 21, 3) := by decide +kernel
theorem dX10_peek_19 : decode cX10_peek 19 = .ok (.baload, 1) := by decide +kernel
theorem dX10_peek_20 : decode cX10_peek 20 = .ok (.sipush 255, 3) := by decide +kernel
theorem dX10_peek_23 : decode cX10_peek 23 = .ok (.iand, 1) := by decide +kernel
theorem dX10_peek_24 : decode cX10_peek 24 = .ok (.goto 4, 3) := by decide +kernel
theorem dX10_peek_27 : decode cX10_peek 27 = .ok (.iconst (-1), 1) := by decide +kernel
theorem dX10_peek_28 : decode cX10_peek 28 = .ok (.ireturn, 1) := by decide +kernel
theorem dX10_isSmall_0 : decode cX10_isSmall 0 = .ok (.iload_n 0, 1) := by decide +kernel
theorem dX10_isSmall_1 : decode cX10_isSmall 1 = .ok (.bipush 97, 2) := by decide +kernel
theorem dX10_isSmall_3 : decode cX10_isSmall 3 = .ok (.if_icmp .lt 13, 3) := by decide +kernel
theorem dX10_isSmall_6 : decode cX10_isSmall 6 = .ok (.iload_n 0, 1) := by decide +kernel
theorem dX10_isSmall_7 : decode cX10_isSmall 7 = .ok (.bipush 122, 2) := by decide +kernel
theorem dX10_isSmall_9 : decode cX10_isSmall 9 = .ok (.if_icmp .gt 7, 3) := by decide +kernel
theorem dX10_isSmall_12 : decode cX10_isSmall 12 = .ok (.iconst 1, 1) := by decide +kernel
theorem dX10_isSmall_13 : decode cX10_isSmall 13 = .ok (.goto 4, 3) := by decide +kernel
theorem dX10_isSmall_16 : decode cX10_isSmall 16 = .ok (.iconst 0, 1) := by decide +kernel
theorem dX10_isSmall_17 : decode cX10_isSmall 17 = .ok (.ireturn, 1) := by decide +kernel
theorem dX10_isDigit_0 : decode cX10_isDigit 0 = .ok (.iload_n 0, 1) := by decide +kernel
theorem dX10_isDigit_1 : decode cX10_isDigit 1 = .ok (.bipush 48, 2) := by decide +kernel
theorem dX10_isDigit_3 : decode cX10_isDigit 3 = .ok (.if_icmp .lt 13, 3) := by decide +kernel
theorem dX10_isDigit_6 : decode cX10_isDigit 6 = .ok (.iload_n 0, 1) := by decide +kernel
theorem dX10_isDigit_7 : decode cX10_isDigit 7 = .ok (.bipush 57, 2) := by decide +kernel
theorem dX10_isDigit_9 : decode cX10_isDigit 9 = .ok (.if_icmp .gt 7, 3) := by decide +kernel
theorem dX10_isDigit_12 : decode cX10_isDigit 12 = .ok (.iconst 1, 1) := by decide +kernel
theorem dX10_isDigit_13 : decode cX10_isDigit 13 = .ok (.goto 4, 3) := by decide +kernel
theorem dX10_isDigit_16 : decode cX10_isDigit 16 = .ok (.iconst 0, 1) := by decide +kernel
theorem dX10_isDigit_17 : decode cX10_isDigit 17 = .ok (.ireturn, 1) := by decide +kernel
theorem dX10_next_0 : decode cX10_next 0 = .ok (.aload_n 0, 1) := by decide +kernel
theorem dX10_next_1 : decode cX10_next 1 = .ok (.invokevirtual 169, 3) := by decide +kernel
theorem dX10_next_4 : decode cX10_next 4 = .ok (.bipush 32, 2) := by decide +kernel
theorem dX10_next_6 : decode cX10_next 6 = .ok (.if_icmp .eq 12, 3) := by decide +kernel
theorem dX10_next_9 : decode cX10_next 9 = .ok (.aload_n 0, 1) := by decide +kernel
theorem dX10_next_10 : decode cX10_next 10 = .ok (.invokevirtual 169, 3) := by decide +kernel
theorem dX10_next_13 : decode cX10_next 13 = .ok (.bipush 10, 2) := by decide +kernel
theorem dX10_next_15 : decode cX10_next 15 = .ok (.if_icmp .ne 16, 3) := by decide +kernel
theorem dX10_next_18 : decode cX10_next 18 = .ok (.aload_n 0, 1) := by decide +kernel
theorem dX10_next_19 : decode cX10_next 19 = .ok (.dup, 1) := by decide +kernel
theorem dX10_next_20 : decode cX10_next 20 = .ok (.getfield 21, 3) := by decide +kernel
theorem dX10_next_23 : decode cX10_next 23 = .ok (.iconst 1, 1) := by decide +kernel
theorem dX10_next_24 : decode cX10_next 24 = .ok (.iadd, 1) := by decide +kernel
theorem dX10_next_25 : decode cX10_next 25 = .ok (.putfield 21, 3) := by decide +kernel
theorem dX10_next_28 : decode cX10_next 28 = .ok (.goto (-28), 3) := by decide +kernel
theorem dX10_next_31 : decode cX10_next 31 = .ok (.aload_n 0, 1) := by decide +kernel
theorem dX10_next_32 : decode cX10_next 32 = .ok (.aload_n 0, 1) := by decide +kernel
theorem dX10_next_33 : decode cX10_next 33 = .ok (.getfield 21, 3) := by decide +kernel
theorem dX10_next_36 : decode cX10_next 36 = .ok (.putfield 173, 3) := by decide +kernel
theorem dX10_next_39 : decode cX10_next 39 = .ok (.aload_n 0, 1) := by decide +kernel
theorem dX10_next_40 : decode cX10_next 40 = .ok (.iconst 0, 1) := by decide +kernel
theorem dX10_next_41 : decode cX10_next 41 = .ok (.putfield 176, 3) := by decide +kernel
theorem dX10_next_44 : decode cX10_next 44 = .ok (.aload_n 0, 1) := by decide +kernel
theorem dX10_next_45 : decode cX10_next 45 = .ok (.getfield 18, 3) := by decide +kernel
theorem dX10_next_48 : decode cX10_next 48 = .ok (.aload_n 0, 1) := by decide +kernel
theorem dX10_next_49 : decode cX10_next 49 = .ok (.getfield 24, 3) := by decide +kernel
theorem dX10_next_52 : decode cX10_next 52 = .ok (.if_icmp .le 28, 3) := by decide +kernel
theorem dX10_next_55 : decode cX10_next 55 = .ok (.aload_n 0, 1) := by decide +kernel
theorem dX10_next_56 : decode cX10_next 56 = .ok (.getfield 21, 3) := by decide +kernel
theorem dX10_next_59 : decode cX10_next 59 = .ok (.aload_n 0, 1) := by decide +kernel
theorem dX10_next_60 : decode cX10_next 60 = .ok (.getfield 24, 3) := by decide +kernel
theorem dX10_next_63 : decode cX10_next 63 = .ok (.if_icmp .lt 17, 3) := by decide +kernel
theorem dX10_next_66 : decode cX10_next 66 = .ok (.aload_n 0, 1) := by decide +kernel
theorem dX10_next_67 : decode cX10_next 67 = .ok (.aload_n 0, 1) := by decide +kernel
theorem dX10_next_68 : decode cX10_next 68 = .ok (.getfield 24, 3) := by decide +kernel
theorem dX10_next_71 : decode cX10_next 71 = .ok (.putfield 173, 3) := by decide +kernel
theorem dX10_next_74 : decode cX10_next 74 = .ok (.aload_n 0, 1) := by decide +kernel
theorem dX10_next_75 : decode cX10_next 75 = .ok (.iconst 4, 1) := by decide +kernel
theorem dX10_next_76 : decode cX10_next 76 = .ok (.putfield 179, 3) := by decide +kernel
theorem dX10_next_79 : decode cX10_next 79 = .ok (.return_, 1) := by decide +kernel
theorem dX10_next_80 : decode cX10_next 80 = .ok (.aload_n 0, 1) := by decide +kernel
theorem dX10_next_81 : decode cX10_next 81 = .ok (.invokevirtual 169, 3) := by decide +kernel
theorem dX10_next_84 : decode cX10_next 84 = .ok (.istore_n 1, 1) := by decide +kernel
theorem dX10_next_85 : decode cX10_next 85 = .ok (.iload_n 1, 1) := by decide +kernel
theorem dX10_next_86 : decode cX10_next 86 = .ok (.ifCond .ge 9, 3) := by decide +kernel
theorem dX10_next_89 : decode cX10_next 89 = .ok (.aload_n 0, 1) := by decide +kernel
theorem dX10_next_90 : decode cX10_next 90 = .ok (.iconst 0, 1) := by decide +kernel
theorem dX10_next_91 : decode cX10_next 91 = .ok (.putfield 179, 3) := by decide +kernel
theorem dX10_next_94 : decode cX10_next 94 = .ok (.return_, 1) := by decide +kernel
theorem dX10_next_95 : decode cX10_next 95 = .ok (.iload_n 1, 1) := by decide +kernel
theorem dX10_next_96 : decode cX10_next 96 = .ok (.invokestatic 182, 3) := by decide +kernel
theorem dX10_next_99 : decode cX10_next 99 = .ok (.ifCond .ne 65, 3) := by decide +kernel
theorem dX10_next_102 : decode cX10_next 102 = .ok (.iload_n 1, 1) := by decide +kernel
theorem dX10_next_103 : decode cX10_next 103 = .ok (.invokestatic 186, 3) := by decide +kernel
theorem dX10_next_106 : decode cX10_next 106 = .ok (.ifCond .ne 58, 3) := by decide +kernel
theorem dX10_next_109 : decode cX10_next 109 = .ok (.aload_n 0, 1) := by decide +kernel
theorem dX10_next_110 : decode cX10_next 110 = .ok (.iload_n 1, 1) := by decide +kernel
theorem dX10_next_111 : decode cX10_next 111 = .ok (.bipush 59, 2) := by decide +kernel
theorem dX10_next_113 : decode cX10_next 113 = .ok (.if_icmp .eq 27, 3) := by decide +kernel
theorem dX10_next_116 : decode cX10_next 116 = .ok (.iload_n 1, 1) := by decide +kernel
theorem dX10_next_117 : decode cX10_next 117 = .ok (.bipush 40, 2) := by decide +kernel
theorem dX10_next_119 : decode cX10_next 119 = .ok (.if_icmp .eq 21, 3) := by decide +kernel
theorem dX10_next_122 : decode cX10_next 122 = .ok (.iload_n 1, 1) := by decide +kernel
theorem dX10_next_123 : decode cX10_next 123 = .ok (.bipush 41, 2) := by decide +kernel
theorem dX10_next_125 : decode cX10_next 125 = .ok (.if_icmp .eq 15, 3) := by decide +kernel
theorem dX10_next_128 : decode cX10_next 128 = .ok (.iload_n 1, 1) := by decide +kernel
theorem dX10_next_129 : decode cX10_next 129 = .ok (.bipush 60, 2) := by decide +kernel
theorem dX10_next_131 : decode cX10_next 131 = .ok (.if_icmp .lt 13, 3) := by decide +kernel
theorem dX10_next_134 : decode cX10_next 134 = .ok (.iload_n 1, 1) := by decide +kernel
theorem dX10_next_135 : decode cX10_next 135 = .ok (.bipush 62, 2) := by decide +kernel
theorem dX10_next_137 : decode cX10_next 137 = .ok (.if_icmp .gt 7, 3) := by decide +kernel
theorem dX10_next_140 : decode cX10_next 140 = .ok (.iconst 3, 1) := by decide +kernel
theorem dX10_next_141 : decode cX10_next 141 = .ok (.goto 4, 3) := by decide +kernel
theorem dX10_next_144 : decode cX10_next 144 = .ok (.iconst 4, 1) := by decide +kernel
theorem dX10_next_145 : decode cX10_next 145 = .ok (.putfield 179, 3) := by decide +kernel
theorem dX10_next_148 : decode cX10_next 148 = .ok (.aload_n 0, 1) := by decide +kernel
theorem dX10_next_149 : decode cX10_next 149 = .ok (.iload_n 1, 1) := by decide +kernel
theorem dX10_next_150 : decode cX10_next 150 = .ok (.putfield 189, 3) := by decide +kernel
theorem dX10_next_153 : decode cX10_next 153 = .ok (.aload_n 0, 1) := by decide +kernel
theorem dX10_next_154 : decode cX10_next 154 = .ok (.dup, 1) := by decide +kernel
theorem dX10_next_155 : decode cX10_next 155 = .ok (.getfield 21, 3) := by decide +kernel
theorem dX10_next_158 : decode cX10_next 158 = .ok (.iconst 1, 1) := by decide +kernel
theorem dX10_next_159 : decode cX10_next 159 = .ok (.iadd, 1) := by decide +kernel
theorem dX10_next_160 : decode cX10_next 160 = .ok (.putfield 21, 3) := by decide +kernel
theorem dX10_next_163 : decode cX10_next 163 = .ok (.return_, 1) := by decide +kernel
theorem dX10_next_164 : decode cX10_next 164 = .ok (.iload_n 1, 1) := by decide +kernel
theorem dX10_next_165 : decode cX10_next 165 = .ok (.invokestatic 182, 3) := by decide +kernel
theorem dX10_next_168 : decode cX10_next 168 = .ok (.istore_n 2, 1) := by decide +kernel
theorem dX10_next_169 : decode cX10_next 169 = .ok (.iconst 1, 1) := by decide +kernel
theorem dX10_next_170 : decode cX10_next 170 = .ok (.istore_n 3, 1) := by decide +kernel
theorem dX10_next_171 : decode cX10_next 171 = .ok (.aload_n 0, 1) := by decide +kernel
theorem dX10_next_172 : decode cX10_next 172 = .ok (.lconst 0, 1) := by decide +kernel
theorem dX10_next_173 : decode cX10_next 173 = .ok (.putfield 192, 3) := by decide +kernel
theorem dX10_next_176 : decode cX10_next 176 = .ok (.aload_n 0, 1) := by decide +kernel
theorem dX10_next_177 : decode cX10_next 177 = .ok (.iconst 0, 1) := by decide +kernel
theorem dX10_next_178 : decode cX10_next 178 = .ok (.putfield 189, 3) := by decide +kernel
theorem dX10_next_181 : decode cX10_next 181 = .ok (.aload_n 0, 1) := by decide +kernel
theorem dX10_next_182 : decode cX10_next 182 = .ok (.invokevirtual 169, 3) := by decide +kernel
theorem dX10_next_185 : decode cX10_next 185 = .ok (.invokestatic 182, 3) := by decide +kernel
theorem dX10_next_188 : decode cX10_next 188 = .ok (.ifCond .ne 13, 3) := by decide +kernel
theorem dX10_next_191 : decode cX10_next 191 = .ok (.aload_n 0, 1) := by decide +kernel
theorem dX10_next_192 : decode cX10_next 192 = .ok (.invokevirtual 169, 3) := by decide +kernel
theorem dX10_next_195 : decode cX10_next 195 = .ok (.invokestatic 186, 3) := by decide +kernel
theorem dX10_next_198 : decode cX10_next 198 = .ok (.ifCond .eq 100, 3) := by decide +kernel
theorem dX10_next_201 : decode cX10_next 201 = .ok (.iload_n 3, 1) := by decide +kernel
theorem dX10_next_202 : decode cX10_next 202 = .ok (.ifCond .eq 18, 3) := by decide +kernel
theorem dX10_next_205 : decode cX10_next 205 = .ok (.aload_n 0, 1) := by decide +kernel
theorem dX10_next_206 : decode cX10_next 206 = .ok (.invokevirtual 169, 3) := by decide +kernel
theorem dX10_next_209 : decode cX10_next 209 = .ok (.invokestatic 182, 3) := by decide +kernel
theorem dX10_next_212 : decode cX10_next 212 = .ok (.iload_n 2, 1) := by decide +kernel
theorem dX10_next_213 : decode cX10_next 213 = .ok (.if_icmp .ne 7, 3) := by decide +kernel
theorem dX10_next_216 : decode cX10_next 216 = .ok (.iconst 1, 1) := by decide +kernel
theorem dX10_next_217 : decode cX10_next 217 = .ok (.goto 4, 3) := by decide +kernel
theorem dX10_next_220 : decode cX10_next 220 = .ok (.iconst 0, 1) := by decide +kernel
theorem dX10_next_221 : decode cX10_next 221 = .ok (.istore_n 3, 1) := by decide +kernel
theorem dX10_next_222 : decode cX10_next 222 = .ok (.aload_n 0, 1) := by decide +kernel
theorem dX10_next_223 : decode cX10_next 223 = .ok (.getfield 176, 3) := by decide +kernel
theorem dX10_next_226 : decode cX10_next 226 = .ok (.bipush 7, 2) := by decide +kernel
theorem dX10_next_228 : decode cX10_next 228 = .ok (.if_icmp .ge 20, 3) := by decide +kernel
theorem dX10_next_231 : decode cX10_next 231 = .ok (.aload_n 0, 1) := by decide +kernel
theorem dX10_next_232 : decode cX10_next 232 = .ok (.aload_n 0, 1) := by decide +kernel
theorem dX10_next_233 : decode cX10_next 233 = .ok (.getfield 192, 3) := by decide +kernel
theorem dX10_next_236 : decode cX10_next 236 = .ok (.bipush 8, 2) := by decide +kernel
theorem dX10_next_238 : decode cX10_next 238 = .ok (.lshl, 1) := by decide +kernel
theorem dX10_next_239 : decode cX10_next 239 = .ok (.aload_n 0, 1) := by decide +kernel
theorem dX10_next_240 : decode cX10_next 240 = .ok (.invokevirtual 169, 3) := by decide +kernel
theorem dX10_next_243 : decode cX10_next 243 = .ok (.i2l, 1) := by decide +kernel
theorem dX10_next_244 : decode cX10_next 244 = .ok (.lor, 1) := by decide +kernel
theorem dX10_next_245 : decode cX10_next 245 = .ok (.putfield 192, 3) := by decide +kernel
theorem dX10_next_248 : decode cX10_next 248 = .ok (.aload_n 0, 1) := by decide +kernel
theorem dX10_next_249 : decode cX10_next 249 = .ok (.getfield 176, 3) := by decide +kernel
theorem dX10_next_252 : decode cX10_next 252 = .ok (.iconst 3, 1) := by decide +kernel
theorem dX10_next_253 : decode cX10_next 253 = .ok (.if_icmp .ge 22, 3) := by decide +kernel
theorem dX10_next_256 : decode cX10_next 256 = .ok (.aload_n 0, 1) := by decide +kernel
theorem dX10_next_257 : decode cX10_next 257 = .ok (.bipush 10, 2) := by decide +kernel
theorem dX10_next_259 : decode cX10_next 259 = .ok (.aload_n 0, 1) := by decide +kernel
theorem dX10_next_260 : decode cX10_next 260 = .ok (.getfield 189, 3) := by decide +kernel
theorem dX10_next_263 : decode cX10_next 263 = .ok (.imul, 1) := by decide +kernel
theorem dX10_next_264 : decode cX10_next 264 = .ok (.aload_n 0, 1) := by decide +kernel
theorem dX10_next_265 : decode cX10_next 265 = .ok (.invokevirtual 169, 3) := by decide +kernel
theorem dX10_next_268 : decode cX10_next 268 = .ok (.iadd, 1) := by decide +kernel
theorem dX10_next_269 : decode cX10_next 269 = .ok (.bipush 48, 2) := by decide +kernel
theorem dX10_next_271 : decode cX10_next 271 = .ok (.isub, 1) := by decide +kernel
theorem dX10_next_272 : decode cX10_next 272 = .ok (.putfield 189, 3) := by decide +kernel
theorem dX10_next_275 : decode cX10_next 275 = .ok (.aload_n 0, 1) := by decide +kernel
theorem dX10_next_276 : decode cX10_next 276 = .ok (.dup, 1) := by decide +kernel
theorem dX10_next_277 : decode cX10_next 277 = .ok (.getfield 176, 3) := by decide +kernel
theorem dX10_next_280 : decode cX10_next 280 = .ok (.iconst 1, 1) := by decide +kernel
theorem dX10_next_281 : decode cX10_next 281 = .ok (.iadd, 1) := by decide +kernel
theorem dX10_next_282 : decode cX10_next 282 = .ok (.putfield 176, 3) := by decide +kernel
theorem dX10_next_285 : decode cX10_next 285 = .ok (.aload_n 0, 1) := by decide +kernel
theorem dX10_next_286 : decode cX10_next 286 = .ok (.dup, 1) := by decide +kernel
theorem dX10_next_287 : decode cX10_next 287 = .ok (.getfield 21, 3) := by decide +kernel
theorem dX10_next_290 : decode cX10_next 290 = .ok (.iconst 1, 1) := by decide +kernel
theorem dX10_next_291 : decode cX10_next 291 = .ok (.iadd, 1) := by decide +kernel
theorem dX10_next_292 : decode cX10_next 292 = .ok (.putfield 21, 3) := by decide +kernel
theorem dX10_next_295 : decode cX10_next 295 = .ok (.goto (-114), 3) := by decide +kernel
theorem dX10_next_298 : decode cX10_next 298 = .ok (.aload_n 0, 1) := by decide +kernel
theorem dX10_next_299 : decode cX10_next 299 = .ok (.iload_n 3, 1) := by decide +kernel
theorem dX10_next_300 : decode cX10_next 300 = .ok (.ifCond .eq 20, 3) := by decide +kernel
theorem dX10_next_303 : decode cX10_next 303 = .ok (.aload_n 0, 1) := by decide +kernel
theorem dX10_next_304 : decode cX10_next 304 = .ok (.getfield 176, 3) := by decide +kernel
theorem dX10_next_307 : decode cX10_next 307 = .ok (.iload_n 2, 1) := by decide +kernel
theorem dX10_next_308 : decode cX10_next 308 = .ok (.ifCond .eq 8, 3) := by decide +kernel
theorem dX10_next_311 : decode cX10_next 311 = .ok (.bipush 7, 2) := by decide +kernel
theorem dX10_next_313 : decode cX10_next 313 = .ok (.goto 4, 3) := by decide +kernel
theorem dX10_next_316 : decode cX10_next 316 = .ok (.iconst 3, 1) := by decide +kernel
theorem dX10_next_317 : decode cX10_next 317 = .ok (.if_icmp .le 7, 3) := by decide +kernel
theorem dX10_next_320 : decode cX10_next 320 = .ok (.iconst 4, 1) := by decide +kernel
theorem dX10_next_321 : decode cX10_next 321 = .ok (.goto 12, 3) := by decide +kernel
theorem dX10_next_324 : decode cX10_next 324 = .ok (.iload_n 2, 1) := by decide +kernel
theorem dX10_next_325 : decode cX10_next 325 = .ok (.ifCond .eq 7, 3) := by decide +kernel
theorem dX10_next_328 : decode cX10_next 328 = .ok (.iconst 1, 1) := by decide +kernel
theorem dX10_next_329 : decode cX10_next 329 = .ok (.goto 4, 3) := by decide +kernel
theorem dX10_next_332 : decode cX10_next 332 = .ok (.iconst 2, 1) := by decide +kernel
theorem dX10_next_333 : decode cX10_next 333 = .ok (.putfield 179, 3) := by decide +kernel
theorem dX10_next_336 : decode cX10_next 336 = .ok (.return_, 1) := by decide +kernel
theorem dX10_bad_0 : decode cX10_bad 0 = .ok (.aload_n 0, 1) := by decide +kernel
theorem dX10_bad_1 : decode cX10_bad 1 = .ok (.iload_n 1, 1) := by decide +kernel
theorem dX10_bad_2 : decode cX10_bad 2 = .ok (.putfield 196, 3) := by decide +kernel
theorem dX10_bad_5 : decode cX10_bad 5 = .ok (.aload_n 0, 1) := by decide +kernel
theorem dX10_bad_6 : decode cX10_bad 6 = .ok (.aload_n 0, 1) := by decide +kernel
theorem dX10_bad_7 : decode cX10_bad 7 = .ok (.getfield 173, 3) := by decide +kernel
theorem dX10_bad_10 : decode cX10_bad 10 = .ok (.putfield 199, 3) := by decide +kernel
theorem dX10_bad_13 : decode cX10_bad 13 = .ok (.iconst 0, 1) := by decide +kernel
theorem dX10_bad_14 : decode cX10_bad 14 = .ok (.ireturn, 1) := by decide +kernel
theorem dX10_isWord_0 : decode cX10_isWord 0 = .ok (.aload_n 0, 1) := by decide +kernel
theorem dX10_isWord_1 : decode cX10_isWord 1 = .ok (.getfield 179, 3) := by decide +kernel
theorem dX10_isWord_4 : decode cX10_isWord 4 = .ok (.iconst 1, 1) := by decide +kernel
theorem dX10_isWord_5 : decode cX10_isWord 5 = .ok (.if_icmp .ne 16, 3) := by decide +kernel
theorem dX10_isWord_8 : decode cX10_isWord 8 = .ok (.aload_n 0, 1) := by decide +kernel
theorem dX10_isWord_9 : decode cX10_isWord 9 = .ok (.getfield 192, 3) := by decide +kernel
theorem dX10_isWord_12 : decode cX10_isWord 12 = .ok (.lload_n 1, 1) := by decide +kernel
theorem dX10_isWord_13 : decode cX10_isWord 13 = .ok (.lcmp, 1) := by decide +kernel
theorem dX10_isWord_14 : decode cX10_isWord 14 = .ok (.ifCond .ne 7, 3) := by decide +kernel
theorem dX10_isWord_17 : decode cX10_isWord 17 = .ok (.iconst 1, 1) := by decide +kernel
theorem dX10_isWord_18 : decode cX10_isWord 18 = .ok (.goto 4, 3) := by decide +kernel
theorem dX10_isWord_21 : decode cX10_isWord 21 = .ok (.iconst 0, 1) := by decide +kernel
theorem dX10_isWord_22 : decode cX10_isWord 22 = .ok (.ireturn, 1) := by decide +kernel
theorem dX10_isSign_0 : decode cX10_isSign 0 = .ok (.aload_n 0, 1) := by decide +kernel
theorem dX10_isSign_1 : decode cX10_isSign 1 = .ok (.getfield 179, 3) := by decide +kernel
theorem dX10_isSign_4 : decode cX10_isSign 4 = .ok (.iconst 3, 1) := by decide +kernel
theorem dX10_isSign_5 : decode cX10_isSign 5 = .ok (.if_icmp .ne 15, 3) := by decide +kernel
theorem dX10_isSign_8 : decode cX10_isSign 8 = .ok (.aload_n 0, 1) := by decide +kernel
theorem dX10_isSign_9 : decode cX10_isSign 9 = .ok (.getfield 189, 3) := by decide +kernel
theorem dX10_isSign_12 : decode cX10_isSign 12 = .ok (.iload_n 1, 1) := by decide +kernel
theorem dX10_isSign_13 : decode cX10_isSign 13 = .ok (.if_icmp .ne 7, 3) := by decide +kernel
theorem dX10_isSign_16 : decode cX10_isSign 16 = .ok (.iconst 1, 1) := by decide +kernel
theorem dX10_isSign_17 : decode cX10_isSign 17 = .ok (.goto 4, 3) := by decide +kernel
theorem dX10_isSign_20 : decode cX10_isSign 20 = .ok (.iconst 0, 1) := by decide +kernel
theorem dX10_isSign_21 : decode cX10_isSign 21 = .ok (.ireturn, 1) := by decide +kernel
theorem dX10_sign_0 : decode cX10_sign 0 = .ok (.aload_n 0, 1) := by decide +kernel
theorem dX10_sign_1 : decode cX10_sign 1 = .ok (.iload_n 1, 1) := by decide +kernel
theorem dX10_sign_2 : decode cX10_sign 2 = .ok (.invokevirtual 202, 3) := by decide +kernel
theorem dX10_sign_5 : decode cX10_sign 5 = .ok (.ifCond .ne 9, 3) := by decide +kernel
theorem dX10_sign_8 : decode cX10_sign 8 = .ok (.aload_n 0, 1) := by decide +kernel
theorem dX10_sign_9 : decode cX10_sign 9 = .ok (.iconst 1, 1) := by decide +kernel
theorem dX10_sign_10 : decode cX10_sign 10 = .ok (.invokevirtual 205, 3) := by decide +kernel
theorem dX10_sign_13 : decode cX10_sign 13 = .ok (.ireturn, 1) := by decide +kernel
theorem dX10_sign_14 : decode cX10_sign 14 = .ok (.aload_n 0, 1) := by decide +kernel
theorem dX10_sign_15 : decode cX10_sign 15 = .ok (.invokevirtual 208, 3) := by decide +kernel
theorem dX10_sign_18 : decode cX10_sign 18 = .ok (.iconst 1, 1) := by decide +kernel
theorem dX10_sign_19 : decode cX10_sign 19 = .ok (.ireturn, 1) := by decide +kernel
theorem dX10_isName_0 : decode cX10_isName 0 = .ok (.aload_n 0, 1) := by decide +kernel
theorem dX10_isName_1 : decode cX10_isName 1 = .ok (.getfield 179, 3) := by decide +kernel
theorem dX10_isName_4 : decode cX10_isName 4 = .ok (.iconst 1, 1) := by decide +kernel
theorem dX10_isName_5 : decode cX10_isName 5 = .ok (.if_icmp .ne 7, 3) := by decide +kernel
theorem dX10_isName_8 : decode cX10_isName 8 = .ok (.iconst 1, 1) := by decide +kernel
theorem dX10_isName_9 : decode cX10_isName 9 = .ok (.goto 4, 3) := by decide +kernel
theorem dX10_isName_12 : decode cX10_isName 12 = .ok (.iconst 0, 1) := by decide +kernel
theorem dX10_isName_13 : decode cX10_isName 13 = .ok (.istore_n 1, 1) := by decide +kernel
theorem dX10_isName_14 : decode cX10_isName 14 = .ok (.iconst 0, 1) := by decide +kernel
theorem dX10_isName_15 : decode cX10_isName 15 = .ok (.istore_n 2, 1) := by decide +kernel
theorem dX10_isName_16 : decode cX10_isName 16 = .ok (.iload_n 2, 1) := by decide +kernel
theorem dX10_isName_17 : decode cX10_isName 17 = .ok (.bipush 23, 2) := by decide +kernel
theorem dX10_isName_19 : decode cX10_isName 19 = .ok (.if_icmp .ge 33, 3) := by decide +kernel
theorem dX10_isName_22 : decode cX10_isName 22 = .ok (.iload_n 1, 1) := by decide +kernel
theorem dX10_isName_23 : decode cX10_isName 23 = .ok (.ifCond .eq 21, 3) := by decide +kernel
theorem dX10_isName_26 : decode cX10_isName 26 = .ok (.aload_n 0, 1) := by decide +kernel
theorem dX10_isName_27 : decode cX10_isName 27 = .ok (.getfield 192, 3) := by decide +kernel
theorem dX10_isName_30 : decode cX10_isName 30 = .ok (.aload_n 0, 1) := by decide +kernel
theorem dX10_isName_31 : decode cX10_isName 31 = .ok (.getfield 51, 3) := by decide +kernel
theorem dX10_isName_34 : decode cX10_isName 34 = .ok (.iload_n 2, 1) := by decide +kernel
theorem dX10_isName_35 : decode cX10_isName 35 = .ok (.laload, 1) := by decide +kernel
theorem dX10_isName_36 : decode cX10_isName 36 = .ok (.lcmp, 1) := by decide +kernel
theorem dX10_isName_37 : decode cX10_isName 37 = .ok (.ifCond .eq 7, 3) := by decide +kernel
theorem dX10_isName_40 : decode cX10_isName 40 = .ok (.iconst 1, 1) := by decide +kernel
theorem dX10_isName_41 : decode cX10_isName 41 = .ok (.goto 4, 3) := by decide +kernel
theorem dX10_isName_44 : decode cX10_isName 44 = .ok (.iconst 0, 1) := by decide +kernel
theorem dX10_isName_45 : decode cX10_isName 45 = .ok (.istore_n 1, 1) := by decide +kernel
theorem dX10_isName_46 : decode cX10_isName 46 = .ok (.iinc 2 1, 3) := by decide +kernel
theorem dX10_isName_49 : decode cX10_isName 49 = .ok (.goto (-33), 3) := by decide +kernel
theorem dX10_isName_52 : decode cX10_isName 52 = .ok (.iload_n 1, 1) := by decide +kernel
theorem dX10_isName_53 : decode cX10_isName 53 = .ok (.ireturn, 1) := by decide +kernel
theorem dX10_takes_0 : decode cX10_takes 0 = .ok (.aload_n 0, 1) := by decide +kernel
theorem dX10_takes_1 : decode cX10_takes 1 = .ok (.getfield 179, 3) := by decide +kernel
theorem dX10_takes_4 : decode cX10_takes 4 = .ok (.iconst 2, 1) := by decide +kernel
theorem dX10_takes_5 : decode cX10_takes 5 = .ok (.if_icmp .eq 9, 3) := by decide +kernel
theorem dX10_takes_8 : decode cX10_takes 8 = .ok (.aload_n 0, 1) := by decide +kernel
theorem dX10_takes_9 : decode cX10_takes 9 = .ok (.iconst 1, 1) := by decide +kernel
theorem dX10_takes_10 : decode cX10_takes 10 = .ok (.invokevirtual 205, 3) := by decide +kernel
theorem dX10_takes_13 : decode cX10_takes 13 = .ok (.ireturn, 1) := by decide +kernel
theorem dX10_takes_14 : decode cX10_takes 14 = .ok (.aload_n 0, 1) := by decide +kernel
theorem dX10_takes_15 : decode cX10_takes 15 = .ok (.getfield 189, 3) := by decide +kernel
theorem dX10_takes_18 : decode cX10_takes 18 = .ok (.iload_n 1, 1) := by decide +kernel
theorem dX10_takes_19 : decode cX10_takes 19 = .ok (.iload_n 2, 1) := by decide +kernel
theorem dX10_takes_20 : decode cX10_takes 20 = .ok (.invokestatic 211, 3) := by decide +kernel
theorem dX10_takes_23 : decode cX10_takes 23 = .ok (.ifCond .ne 9, 3) := by decide +kernel
theorem dX10_takes_26 : decode cX10_takes 26 = .ok (.aload_n 0, 1) := by decide +kernel
theorem dX10_takes_27 : decode cX10_takes 27 = .ok (.iconst 2, 1) := by decide +kernel
theorem dX10_takes_28 : decode cX10_takes 28 = .ok (.invokevirtual 205, 3) := by decide +kernel
theorem dX10_takes_31 : decode cX10_takes 31 = .ok (.ireturn, 1) := by decide +kernel
theorem dX10_takes_32 : decode cX10_takes 32 = .ok (.aload_n 0, 1) := by decide +kernel
theorem dX10_takes_33 : decode cX10_takes 33 = .ok (.aload_n 0, 1) := by decide +kernel
theorem dX10_takes_34 : decode cX10_takes 34 = .ok (.getfield 189, 3) := by decide +kernel
theorem dX10_takes_37 : decode cX10_takes 37 = .ok (.putfield 215, 3) := by decide +kernel
theorem dX10_takes_40 : decode cX10_takes 40 = .ok (.aload_n 0, 1) := by decide +kernel
theorem dX10_takes_41 : decode cX10_takes 41 = .ok (.invokevirtual 208, 3) := by decide +kernel
theorem dX10_takes_44 : decode cX10_takes 44 = .ok (.iconst 1, 1) := by decide +kernel
theorem dX10_takes_45 : decode cX10_takes 45 = .ok (.ireturn, 1) := by decide +kernel
theorem dX10_find_0 : decode cX10_find 0 = .ok (.iconst 0, 1) := by decide +kernel
theorem dX10_find_1 : decode cX10_find 1 = .ok (.istore_n 3, 1) := by decide +kernel
theorem dX10_find_2 : decode cX10_find 2 = .ok (.iload_n 3, 1) := by decide +kernel
theorem dX10_find_3 : decode cX10_find 3 = .ok (.iload_n 2, 1) := by decide +kernel
theorem dX10_find_4 : decode cX10_find 4 = .ok (.if_icmp .ge 27, 3) := by decide +kernel
theorem dX10_find_7 : decode cX10_find 7 = .ok (.aload_n 0, 1) := by decide +kernel
theorem dX10_find_8 : decode cX10_find 8 = .ok (.getfield 47, 3) := by decide +kernel
theorem dX10_find_11 : decode cX10_find 11 = .ok (.iload_n 1, 1) := by decide +kernel
theorem dX10_find_12 : decode cX10_find 12 = .ok (.iload_n 3, 1) := by decide +kernel
theorem dX10_find_13 : decode cX10_find 13 = .ok (.iadd, 1) := by decide +kernel
theorem dX10_find_14 : decode cX10_find 14 = .ok (.laload, 1) := by decide +kernel
theorem dX10_find_15 : decode cX10_find 15 = .ok (.aload_n 0, 1) := by decide +kernel
theorem dX10_find_16 : decode cX10_find 16 = .ok (.getfield 192, 3) := by decide +kernel
theorem dX10_find_19 : decode cX10_find 19 = .ok (.lcmp, 1) := by decide +kernel
theorem dX10_find_20 : decode cX10_find 20 = .ok (.ifCond .ne 5, 3) := by decide +kernel
theorem dX10_find_23 : decode cX10_find 23 = .ok (.iload_n 3, 1) := by decide +kernel
theorem dX10_find_24 : decode cX10_find 24 = .ok (.ireturn, 1) := by decide +kernel
theorem dX10_find_25 : decode cX10_find 25 = .ok (.iinc 3 1, 3) := by decide +kernel
theorem dX10_find_28 : decode cX10_find 28 = .ok (.goto (-26), 3) := by decide +kernel
theorem dX10_find_31 : decode cX10_find 31 = .ok (.iconst (-1), 1) := by decide +kernel
theorem dX10_find_32 : decode cX10_find 32 = .ok (.ireturn, 1) := by decide +kernel
theorem dX10_fresh_0 : decode cX10_fresh 0 = .ok (.aload_n 0, 1) := by decide +kernel
theorem dX10_fresh_1 : decode cX10_fresh 1 = .ok (.invokevirtual 218, 3) := by decide +kernel
theorem dX10_fresh_4 : decode cX10_fresh 4 = .ok (.ifCond .ne 9, 3) := by decide +kernel
theorem dX10_fresh_7 : decode cX10_fresh 7 = .ok (.aload_n 0, 1) := by decide +kernel
theorem dX10_fresh_8 : decode cX10_fresh 8 = .ok (.iconst 1, 1) := by decide +kernel
theorem dX10_fresh_9 : decode cX10_fresh 9 = .ok (.invokevirtual 205, 3) := by decide +kernel
theorem dX10_fresh_12 : decode cX10_fresh 12 = .ok (.ireturn, 1) := by decide +kernel
theorem dX10_fresh_13 : decode cX10_fresh 13 = .ok (.aload_n 0, 1) := by decide +kernel
theorem dX10_fresh_14 : decode cX10_fresh 14 = .ok (.bipush 18, 2) := by decide +kernel
theorem dX10_fresh_16 : decode cX10_fresh 16 = .ok (.aload_n 0, 1) := by decide +kernel
theorem dX10_fresh_17 : decode cX10_fresh 17 = .ok (.getfield 41, 3) := by decide +kernel
theorem dX10_fresh_20 : decode cX10_fresh 20 = .ok (.iconst 5, 1) := by decide +kernel
theorem dX10_fresh_21 : decode cX10_fresh 21 = .ok (.iaload, 1) := by decide +kernel
theorem dX10_fresh_22 : decode cX10_fresh 22 = .ok (.invokevirtual 222, 3) := by decide +kernel
theorem dX10_fresh_25 : decode cX10_fresh 25 = .ok (.ifCond .ge 19, 3) := by decide +kernel
theorem dX10_fresh_28 : decode cX10_fresh 28 = .ok (.aload_n 0, 1) := by decide +kernel
theorem dX10_fresh_29 : decode cX10_fresh 29 = .ok (.bipush 30, 2) := by decide +kernel
theorem dX10_fresh_31 : decode cX10_fresh 31 = .ok (.aload_n 0, 1) := by decide +kernel
theorem dX10_fresh_32 : decode cX10_fresh 32 = .ok (.getfield 41, 3) := by decide +kernel
theorem dX10_fresh_35 : decode cX10_fresh 35 = .ok (.bipush 7, 2) := by decide +kernel
theorem dX10_fresh_37 : decode cX10_fresh 37 = .ok (.iaload, 1) := by decide +kernel
theorem dX10_fresh_38 : decode cX10_fresh 38 = .ok (.invokevirtual 222, 3) := by decide +kernel
theorem dX10_fresh_41 : decode cX10_fresh 41 = .ok (.ifCond .lt 9, 3) := by decide +kernel
theorem dX10_fresh_44 : decode cX10_fresh 44 = .ok (.aload_n 0, 1) := by decide +kernel
theorem dX10_fresh_45 : decode cX10_fresh 45 = .ok (.iconst 3, 1) := by decide +kernel
theorem dX10_fresh_46 : decode cX10_fresh 46 = .ok (.invokevirtual 205, 3) := by decide +kernel
theorem dX10_fresh_49 : decode cX10_fresh 49 = .ok (.ireturn, 1) := by decide +kernel
theorem dX10_fresh_50 : decode cX10_fresh 50 = .ok (.aload_n 0, 1) := by decide +kernel
theorem dX10_fresh_51 : decode cX10_fresh 51 = .ok (.getfield 47, 3) := by decide +kernel
theorem dX10_fresh_54 : decode cX10_fresh 54 = .ok (.iload_n 1, 1) := by decide +kernel
theorem dX10_fresh_55 : decode cX10_fresh 55 = .ok (.aload_n 0, 1) := by decide +kernel
theorem dX10_fresh_56 : decode cX10_fresh 56 = .ok (.getfield 192, 3) := by decide +kernel
theorem dX10_fresh_59 : decode cX10_fresh 59 = .ok (.lastore, 1) := by decide +kernel
theorem dX10_fresh_60 : decode cX10_fresh 60 = .ok (.aload_n 0, 1) := by decide +kernel
theorem dX10_fresh_61 : decode cX10_fresh 61 = .ok (.invokevirtual 208, 3) := by decide +kernel
theorem dX10_fresh_64 : decode cX10_fresh 64 = .ok (.iconst 1, 1) := by decide +kernel
theorem dX10_fresh_65 : decode cX10_fresh 65 = .ok (.ireturn, 1) := by decide +kernel
theorem dX10_onceOf_0 : decode cX10_onceOf 0 = .ok (.aload_n 0, 1) := by decide +kernel
theorem dX10_onceOf_1 : decode cX10_onceOf 1 = .ok (.ldc2_w 120, 3) := by decide +kernel
theorem dX10_onceOf_4 : decode cX10_onceOf 4 = .ok (.invokevirtual 225, 3) := by decide +kernel
theorem dX10_onceOf_7 : decode cX10_onceOf 7 = .ok (.ifCond .eq 7, 3) := by decide +kernel
theorem dX10_onceOf_10 : decode cX10_onceOf 10 = .ok (.iconst 0, 1) := by decide +kernel
theorem dX10_onceOf_11 : decode cX10_onceOf 11 = .ok (.goto 60, 3) := by decide +kernel
theorem dX10_onceOf_14 : decode cX10_onceOf 14 = .ok (.aload_n 0, 1) := by decide +kernel
theorem dX10_onceOf_15 : decode cX10_onceOf 15 = .ok (.ldc2_w 122, 3) := by decide +kernel
theorem dX10_onceOf_18 : decode cX10_onceOf 18 = .ok (.invokevirtual 225, 3) := by decide +kernel
theorem dX10_onceOf_21 : decode cX10_onceOf 21 = .ok (.ifCond .eq 7, 3) := by decide +kernel
theorem dX10_onceOf_24 : decode cX10_onceOf 24 = .ok (.iconst 1, 1) := by decide +kernel
theorem dX10_onceOf_25 : decode cX10_onceOf 25 = .ok (.goto 46, 3) := by decide +kernel
theorem dX10_onceOf_28 : decode cX10_onceOf 28 = .ok (.aload_n 0, 1) := by decide +kernel
theorem dX10_onceOf_29 : decode cX10_onceOf 29 = .ok (.ldc2_w 124, 3) := by decide +kernel
theorem dX10_onceOf_32 : decode cX10_onceOf 32 = .ok (.invokevirtual 225, 3) := by decide +kernel
theorem dX10_onceOf_35 : decode cX10_onceOf 35 = .ok (.ifCond .eq 7, 3) := by decide +kernel
theorem dX10_onceOf_38 : decode cX10_onceOf 38 = .ok (.iconst 2, 1) := by decide +kernel
theorem dX10_onceOf_39 : decode cX10_onceOf 39 = .ok (.goto 32, 3) := by decide +kernel
theorem dX10_onceOf_42 : decode cX10_onceOf 42 = .ok (.aload_n 0, 1) := by decide +kernel
theorem dX10_onceOf_43 : decode cX10_onceOf 43 = .ok (.ldc2_w 126, 3) := by decide +kernel
theorem dX10_onceOf_46 : decode cX10_onceOf 46 = .ok (.invokevirtual 225, 3) := by decide +kernel
theorem dX10_onceOf_49 : decode cX10_onceOf 49 = .ok (.ifCond .eq 7, 3) := by decide +kernel
theorem dX10_onceOf_52 : decode cX10_onceOf 52 = .ok (.iconst 3, 1) := by decide +kernel
theorem dX10_onceOf_53 : decode cX10_onceOf 53 = .ok (.goto 18, 3) := by decide +kernel
theorem dX10_onceOf_56 : decode cX10_onceOf 56 = .ok (.aload_n 0, 1) := by decide +kernel
theorem dX10_onceOf_57 : decode cX10_onceOf 57 = .ok (.ldc2_w 128, 3) := by decide +kernel
theorem dX10_onceOf_60 : decode cX10_onceOf 60 = .ok (.invokevirtual 225, 3) := by decide +kernel
theorem dX10_onceOf_63 : decode cX10_onceOf 63 = .ok (.ifCond .eq 7, 3) := by decide +kernel
theorem dX10_onceOf_66 : decode cX10_onceOf 66 = .ok (.iconst 4, 1) := by decide +kernel
theorem dX10_onceOf_67 : decode cX10_onceOf 67 = .ok (.goto 4, 3) := by decide +kernel
theorem dX10_onceOf_70 : decode cX10_onceOf 70 = .ok (.iconst (-1), 1) := by decide +kernel
theorem dX10_onceOf_71 : decode cX10_onceOf 71 = .ok (.ireturn, 1) := by decide +kernel
theorem dX10_isOnce_0 : decode cX10_isOnce 0 = .ok (.aload_n 0, 1) := by decide +kernel
theorem dX10_isOnce_1 : decode cX10_isOnce 1 = .ok (.getfield 229, 3) := by decide +kernel
theorem dX10_isOnce_4 : decode cX10_isOnce 4 = .ok (.iload_n 1, 1) := by decide +kernel
theorem dX10_isOnce_5 : decode cX10_isOnce 5 = .ok (.invokestatic 232, 3) := by decide +kernel
theorem dX10_isOnce_8 : decode cX10_isOnce 8 = .ok (.ifCond .eq 9, 3) := by decide +kernel
theorem dX10_isOnce_11 : decode cX10_isOnce 11 = .ok (.aload_n 0, 1) := by decide +kernel
theorem dX10_isOnce_12 : decode cX10_isOnce 12 = .ok (.iconst 3, 1) := by decide +kernel
theorem dX10_isOnce_13 : decode cX10_isOnce 13 = .ok (.invokevirtual 205, 3) := by decide +kernel
theorem dX10_isOnce_16 : decode cX10_isOnce 16 = .ok (.ireturn, 1) := by decide +kernel
theorem dX10_isOnce_17 : decode cX10_isOnce 17 = .ok (.aload_n 0, 1) := by decide +kernel
theorem dX10_isOnce_18 : decode cX10_isOnce 18 = .ok (.dup, 1) := by decide +kernel
theorem dX10_isOnce_19 : decode cX10_isOnce 19 = .ok (.getfield 229, 3) := by decide +kernel
theorem dX10_isOnce_22 : decode cX10_isOnce 22 = .ok (.iconst 1, 1) := by decide +kernel
theorem dX10_isOnce_23 : decode cX10_isOnce 23 = .ok (.iload_n 1, 1) := by decide +kernel
theorem dX10_isOnce_24 : decode cX10_isOnce 24 = .ok (.ishl, 1) := by decide +kernel
theorem dX10_isOnce_25 : decode cX10_isOnce 25 = .ok (.ior, 1) := by decide +kernel
theorem dX10_isOnce_26 : decode cX10_isOnce 26 = .ok (.putfield 229, 3) := by decide +kernel
theorem dX10_isOnce_29 : decode cX10_isOnce 29 = .ok (.aload_n 0, 1) := by decide +kernel
theorem dX10_isOnce_30 : decode cX10_isOnce 30 = .ok (.invokevirtual 208, 3) := by decide +kernel
theorem dX10_isOnce_33 : decode cX10_isOnce 33 = .ok (.iconst 1, 1) := by decide +kernel
theorem dX10_isOnce_34 : decode cX10_isOnce 34 = .ok (.ireturn, 1) := by decide +kernel
theorem dX10_line0_0 : decode cX10_line0 0 = .ok (.aload_n 0, 1) := by decide +kernel
theorem dX10_line0_1 : decode cX10_line0 1 = .ok (.invokevirtual 236, 3) := by decide +kernel
theorem dX10_line0_4 : decode cX10_line0 4 = .ok (.istore_n 1, 1) := by decide +kernel
theorem dX10_line0_5 : decode cX10_line0 5 = .ok (.iload_n 1, 1) := by decide +kernel
theorem dX10_line0_6 : decode cX10_line0 6 = .ok (.ifCond .lt 107, 3) := by decide +kernel
theorem dX10_line0_9 : decode cX10_line0 9 = .ok (.aload_n 0, 1) := by decide +kernel
theorem dX10_line0_10 : decode cX10_line0 10 = .ok (.iload_n 1, 1) := by decide +kernel
theorem dX10_line0_11 : decode cX10_line0 11 = .ok (.invokevirtual 239, 3) := by decide +kernel
theorem dX10_line0_14 : decode cX10_line0 14 = .ok (.ifCond .ne 5, 3) := by decide +kernel
theorem dX10_line0_17 : decode cX10_line0 17 = .ok (.iconst 0, 1) := by decide +kernel
theorem dX10_line0_18 : decode cX10_line0 18 = .ok (.ireturn, 1) := by decide +kernel
theorem dX10_line0_19 : decode cX10_line0 19 = .ok (.aload_n 0, 1) := by decide +kernel
theorem dX10_line0_20 : decode cX10_line0 20 = .ok (.iload_n 1, 1) := by decide +kernel
theorem dX10_line0_21 : decode cX10_line0 21 = .ok (.ifCond .ne 7, 3) := by decide +kernel
theorem dX10_line0_24 : decode cX10_line0 24 = .ok (.iconst 5, 1) := by decide +kernel
theorem dX10_line0_25 : decode cX10_line0 25 = .ok (.goto 25, 3) := by decide +kernel
theorem dX10_line0_28 : decode cX10_line0 28 = .ok (.iload_n 1, 1) := by decide +kernel
theorem dX10_line0_29 : decode cX10_line0 29 = .ok (.iconst 1, 1) := by decide +kernel
theorem dX10_line0_30 : decode cX10_line0 30 = .ok (.if_icmp .ne 8, 3) := by decide +kernel
theorem dX10_line0_33 : decode cX10_line0 33 = .ok (.bipush 100, 2) := by decide +kernel
theorem dX10_line0_35 : decode cX10_line0 35 = .ok (.goto 15, 3) := by decide +kernel
theorem dX10_line0_38 : decode cX10_line0 38 = .ok (.iload_n 1, 1) := by decide +kernel
theorem dX10_line0_39 : decode cX10_line0 39 = .ok (.iconst 2, 1) := by decide +kernel
theorem dX10_line0_40 : decode cX10_line0 40 = .ok (.if_icmp .ne 9, 3) := by decide +kernel
theorem dX10_line0_43 : decode cX10_line0 43 = .ok (.sipush 300, 3) := by decide +kernel
theorem dX10_line0_46 : decode cX10_line0 46 = .ok (.goto 4, 3) := by decide +kernel
theorem dX10_line0_49 : decode cX10_line0 49 = .ok (.iconst 0, 1) := by decide +kernel
theorem dX10_line0_50 : decode cX10_line0 50 = .ok (.iload_n 1, 1) := by decide +kernel
theorem dX10_line0_51 : decode cX10_line0 51 = .ok (.ifCond .ne 8, 3) := by decide +kernel
theorem dX10_line0_54 : decode cX10_line0 54 = .ok (.bipush 40, 2) := by decide +kernel
theorem dX10_line0_56 : decode cX10_line0 56 = .ok (.goto 37, 3) := by decide +kernel
theorem dX10_line0_59 : decode cX10_line0 59 = .ok (.iload_n 1, 1) := by decide +kernel
theorem dX10_line0_60 : decode cX10_line0 60 = .ok (.iconst 1, 1) := by decide +kernel
theorem dX10_line0_61 : decode cX10_line0 61 = .ok (.if_icmp .ne 9, 3) := by decide +kernel
theorem dX10_line0_64 : decode cX10_line0 64 = .ok (.sipush 300, 3) := by decide +kernel
theorem dX10_line0_67 : decode cX10_line0 67 = .ok (.goto 26, 3) := by decide +kernel
theorem dX10_line0_70 : decode cX10_line0 70 = .ok (.iload_n 1, 1) := by decide +kernel
theorem dX10_line0_71 : decode cX10_line0 71 = .ok (.iconst 2, 1) := by decide +kernel
theorem dX10_line0_72 : decode cX10_line0 72 = .ok (.if_icmp .ne 9, 3) := by decide +kernel
theorem dX10_line0_75 : decode cX10_line0 75 = .ok (.sipush 900, 3) := by decide +kernel
theorem dX10_line0_78 : decode cX10_line0 78 = .ok (.goto 15, 3) := by decide +kernel
theorem dX10_line0_81 : decode cX10_line0 81 = .ok (.iload_n 1, 1) := by decide +kernel
theorem dX10_line0_82 : decode cX10_line0 82 = .ok (.iconst 3, 1) := by decide +kernel
theorem dX10_line0_83 : decode cX10_line0 83 = .ok (.if_icmp .ne 8, 3) := by decide +kernel
theorem dX10_line0_86 : decode cX10_line0 86 = .ok (.bipush 9, 2) := by decide +kernel
theorem dX10_line0_88 : decode cX10_line0 88 = .ok (.goto 5, 3) := by decide +kernel
theorem dX10_line0_91 : decode cX10_line0 91 = .ok (.bipush 20, 2) := by decide +kernel
theorem dX10_line0_93 : decode cX10_line0 93 = .ok (.invokevirtual 242, 3) := by decide +kernel
theorem dX10_line0_96 : decode cX10_line0 96 = .ok (.ifCond .ne 5, 3) := by decide +kernel
theorem dX10_line0_99 : decode cX10_line0 99 = .ok (.iconst 0, 1) := by decide +kernel
theorem dX10_line0_100 : decode cX10_line0 100 = .ok (.ireturn, 1) := by decide +kernel
theorem dX10_line0_101 : decode cX10_line0 101 = .ok (.aload_n 0, 1) := by decide +kernel
theorem dX10_line0_102 : decode cX10_line0 102 = .ok (.getfield 41, 3) := by decide +kernel
theorem dX10_line0_105 : decode cX10_line0 105 = .ok (.iload_n 1, 1) := by decide +kernel
theorem dX10_line0_106 : decode cX10_line0 106 = .ok (.aload_n 0, 1) := by decide +kernel
theorem dX10_line0_107 : decode cX10_line0 107 = .ok (.getfield 215, 3) := by decide +kernel
theorem dX10_line0_110 : decode cX10_line0 110 = .ok (.iastore, 1) := by decide +kernel
theorem dX10_line0_111 : decode cX10_line0 111 = .ok (.iconst 1, 1) := by decide +kernel
theorem dX10_line0_112 : decode cX10_line0 112 = .ok (.ireturn, 1) := by decide +kernel
theorem dX10_line0_113 : decode cX10_line0 113 = .ok (.aload_n 0, 1) := by decide +kernel
theorem dX10_line0_114 : decode cX10_line0 114 = .ok (.ldc2_w 130, 3) := by decide +kernel
theorem dX10_line0_117 : decode cX10_line0 117 = .ok (.invokevirtual 225, 3) := by decide +kernel
theorem dX10_line0_120 : decode cX10_line0 120 = .ok (.ifCond .eq 128, 3) := by decide +kernel
theorem dX10_line0_123 : decode cX10_line0 123 = .ok (.aload_n 0, 1) := by decide +kernel
theorem dX10_line0_124 : decode cX10_line0 124 = .ok (.getfield 41, 3) := by decide +kernel
theorem dX10_line0_127 : decode cX10_line0 127 = .ok (.iconst 5, 1) := by decide +kernel
theorem dX10_line0_128 : decode cX10_line0 128 = .ok (.iaload, 1) := by decide +kernel
theorem dX10_line0_129 : decode cX10_line0 129 = .ok (.istore_n 2, 1) := by decide +kernel
theorem dX10_line0_130 : decode cX10_line0 130 = .ok (.iload_n 2, 1) := by decide +kernel
theorem dX10_line0_131 : decode cX10_line0 131 = .ok (.bipush 12, 2) := by decide +kernel
theorem dX10_line0_133 : decode cX10_line0 133 = .ok (.if_icmp .ne 9, 3) := by decide +kernel
theorem dX10_line0_136 : decode cX10_line0 136 = .ok (.aload_n 0, 1) := by decide +kernel
theorem dX10_line0_137 : decode cX10_line0 137 = .ok (.iconst 4, 1) := by decide +kernel
theorem dX10_line0_138 : decode cX10_line0 138 = .ok (.invokevirtual 205, 3) := by decide +kernel
theorem dX10_line0_141 : decode cX10_line0 141 = .ok (.ireturn, 1) := by decide +kernel
theorem dX10_line0_142 : decode cX10_line0 142 = .ok (.aload_n 0, 1) := by decide +kernel
theorem dX10_line0_143 : decode cX10_line0 143 = .ok (.invokevirtual 208, 3) := by decide +kernel
theorem dX10_line0_146 : decode cX10_line0 146 = .ok (.aload_n 0, 1) := by decide +kernel
theorem dX10_line0_147 : decode cX10_line0 147 = .ok (.bipush 18, 2) := by decide +kernel
theorem dX10_line0_149 : decode cX10_line0 149 = .ok (.iload_n 2, 1) := by decide +kernel
theorem dX10_line0_150 : decode cX10_line0 150 = .ok (.iadd, 1) := by decide +kernel
theorem dX10_line0_151 : decode cX10_line0 151 = .ok (.invokevirtual 245, 3) := by decide +kernel
theorem dX10_line0_154 : decode cX10_line0 154 = .ok (.ifCond .ne 5, 3) := by decide +kernel
theorem dX10_line0_157 : decode cX10_line0 157 = .ok (.iconst 0, 1) := by decide +kernel
theorem dX10_line0_158 : decode cX10_line0 158 = .ok (.ireturn, 1) := by decide +kernel
theorem dX10_line0_159 : decode cX10_line0 159 = .ok (.aload_n 0, 1) := by decide +kernel
theorem dX10_line0_160 : decode cX10_line0 160 = .ok (.iconst 1, 1) := by decide +kernel
theorem dX10_line0_161 : decode cX10_line0 161 = .ok (.bipush 9, 2) := by decide +kernel
theorem dX10_line0_163 : decode cX10_line0 163 = .ok (.invokevirtual 242, 3) := by decide +kernel
theorem dX10_line0_166 : decode cX10_line0 166 = .ok (.ifCond .ne 5, 3) := by decide +kernel
theorem dX10_line0_169 : decode cX10_line0 169 = .ok (.iconst 0, 1) := by decide +kernel
theorem dX10_line0_170 : decode cX10_line0 170 = .ok (.ireturn, 1) := by decide +kernel
theorem dX10_line0_171 : decode cX10_line0 171 = .ok (.aload_n 0, 1) := by decide +kernel
theorem dX10_line0_172 : decode cX10_line0 172 = .ok (.getfield 41, 3) := by decide +kernel
theorem dX10_line0_175 : decode cX10_line0 175 = .ok (.bipush 8, 2) := by decide +kernel
theorem dX10_line0_177 : decode cX10_line0 177 = .ok (.iload_n 2, 1) := by decide +kernel
theorem dX10_line0_178 : decode cX10_line0 178 = .ok (.iadd, 1) := by decide +kernel
theorem dX10_line0_179 : decode cX10_line0 179 = .ok (.aload_n 0, 1) := by decide +kernel
theorem dX10_line0_180 : decode cX10_line0 180 = .ok (.getfield 215, 3) := by decide +kernel
theorem dX10_line0_183 : decode cX10_line0 183 = .ok (.iastore, 1) := by decide +kernel
theorem dX10_line0_184 : decode cX10_line0 184 = .ok (.aload_n 0, 1) := by decide +kernel
theorem dX10_line0_185 : decode cX10_line0 185 = .ok (.iconst 1, 1) := by decide +kernel
theorem dX10_line0_186 : decode cX10_line0 186 = .ok (.bipush 9, 2) := by decide +kernel
theorem dX10_line0_188 : decode cX10_line0 188 = .ok (.invokevirtual 242, 3) := by decide +kernel
theorem dX10_line0_191 : decode cX10_line0 191 = .ok (.ifCond .ne 5, 3) := by decide +kernel
theorem dX10_line0_194 : decode cX10_line0 194 = .ok (.iconst 0, 1) := by decide +kernel
theorem dX10_line0_195 : decode cX10_line0 195 = .ok (.ireturn, 1) := by decide +kernel
theorem dX10_line0_196 : decode cX10_line0 196 = .ok (.aload_n 0, 1) := by decide +kernel
theorem dX10_line0_197 : decode cX10_line0 197 = .ok (.getfield 41, 3) := by decide +kernel
theorem dX10_line0_200 : decode cX10_line0 200 = .ok (.bipush 20, 2) := by decide +kernel
theorem dX10_line0_202 : decode cX10_line0 202 = .ok (.iload_n 2, 1) := by decide +kernel
theorem dX10_line0_203 : decode cX10_line0 203 = .ok (.iadd, 1) := by decide +kernel
theorem dX10_line0_204 : decode cX10_line0 204 = .ok (.aload_n 0, 1) := by decide +kernel
theorem dX10_line0_205 : decode cX10_line0 205 = .ok (.getfield 215, 3) := by decide +kernel
theorem dX10_line0_208 : decode cX10_line0 208 = .ok (.iastore, 1) := by decide +kernel
theorem dX10_line0_209 : decode cX10_line0 209 = .ok (.aload_n 0, 1) := by decide +kernel
theorem dX10_line0_210 : decode cX10_line0 210 = .ok (.bipush 50, 2) := by decide +kernel
theorem dX10_line0_212 : decode cX10_line0 212 = .ok (.sipush 150, 3) := by decide +kernel
theorem dX10_line0_215 : decode cX10_line0 215 = .ok (.invokevirtual 242, 3) := by decide +kernel
theorem dX10_line0_218 : decode cX10_line0 218 = .ok (.ifCond .ne 5, 3) := by decide +kernel
theorem dX10_line0_221 : decode cX10_line0 221 = .ok (.iconst 0, 1) := by decide +kernel
theorem dX10_line0_222 : decode cX10_line0 222 = .ok (.ireturn, 1) := by decide +kernel
theorem dX10_line0_223 : decode cX10_line0 223 = .ok (.aload_n 0, 1) := by decide +kernel
theorem dX10_line0_224 : decode cX10_line0 224 = .ok (.getfield 41, 3) := by decide +kernel
theorem dX10_line0_227 : decode cX10_line0 227 = .ok (.bipush 32, 2) := by decide +kernel
theorem dX10_line0_229 : decode cX10_line0 229 = .ok (.iload_n 2, 1) := by decide +kernel
theorem dX10_line0_230 : decode cX10_line0 230 = .ok (.iadd, 1) := by decide +kernel
theorem dX10_line0_231 : decode cX10_line0 231 = .ok (.aload_n 0, 1) := by decide +kernel
theorem dX10_line0_232 : decode cX10_line0 232 = .ok (.getfield 215, 3) := by decide +kernel
theorem dX10_line0_235 : decode cX10_line0 235 = .ok (.iastore, 1) := by decide +kernel
theorem dX10_line0_236 : decode cX10_line0 236 = .ok (.aload_n 0, 1) := by decide +kernel
theorem dX10_line0_237 : decode cX10_line0 237 = .ok (.getfield 41, 3) := by decide +kernel
theorem dX10_line0_240 : decode cX10_line0 240 = .ok (.iconst 5, 1) := by decide +kernel
theorem dX10_line0_241 : decode cX10_line0 241 = .ok (.dup2, 1) := by decide +kernel
theorem dX10_line0_242 : decode cX10_line0 242 = .ok (.iaload, 1) := by decide +kernel
theorem dX10_line0_243 : decode cX10_line0 243 = .ok (.iconst 1, 1) := by decide +kernel
theorem dX10_line0_244 : decode cX10_line0 244 = .ok (.iadd, 1) := by decide +kernel
theorem dX10_line0_245 : decode cX10_line0 245 = .ok (.iastore, 1) := by decide +kernel
theorem dX10_line0_246 : decode cX10_line0 246 = .ok (.iconst 1, 1) := by decide +kernel
theorem dX10_line0_247 : decode cX10_line0 247 = .ok (.ireturn, 1) := by decide +kernel
theorem dX10_line0_248 : decode cX10_line0 248 = .ok (.aload_n 0, 1) := by decide +kernel
theorem dX10_line0_249 : decode cX10_line0 249 = .ok (.ldc2_w 132, 3) := by decide +kernel
theorem dX10_line0_252 : decode cX10_line0 252 = .ok (.invokevirtual 225, 3) := by decide +kernel
theorem dX10_line0_255 : decode cX10_line0 255 = .ok (.ifCond .eq 140, 3) := by decide +kernel
theorem dX10_line0_258 : decode cX10_line0 258 = .ok (.aload_n 0, 1) := by decide +kernel
theorem dX10_line0_259 : decode cX10_line0 259 = .ok (.getfield 41, 3) := by decide +kernel
theorem dX10_line0_262 : decode cX10_line0 262 = .ok (.bipush 6, 2) := by decide +kernel
theorem dX10_line0_264 : decode cX10_line0 264 = .ok (.iaload, 1) := by decide +kernel
theorem dX10_line0_265 : decode cX10_line0 265 = .ok (.istore_n 2, 1) := by decide +kernel
theorem dX10_line0_266 : decode cX10_line0 266 = .ok (.iload_n 2, 1) := by decide +kernel
theorem dX10_line0_267 : decode cX10_line0 267 = .ok (.bipush 12, 2) := by decide +kernel
theorem dX10_line0_269 : decode cX10_line0 269 = .ok (.if_icmp .ne 9, 3) := by decide +kernel
theorem dX10_line0_272 : decode cX10_line0 272 = .ok (.aload_n 0, 1) := by decide +kernel
theorem dX10_line0_273 : decode cX10_line0 273 = .ok (.iconst 4, 1) := by decide +kernel
theorem dX10_line0_274 : decode cX10_line0 274 = .ok (.invokevirtual 205, 3) := by decide +kernel
theorem dX10_line0_277 : decode cX10_line0 277 = .ok (.ireturn, 1) := by decide +kernel
theorem dX10_line0_278 : decode cX10_line0 278 = .ok (.aload_n 0, 1) := by decide +kernel
theorem dX10_line0_279 : decode cX10_line0 279 = .ok (.invokevirtual 208, 3) := by decide +kernel
theorem dX10_line0_282 : decode cX10_line0 282 = .ok (.aload_n 0, 1) := by decide +kernel
theorem dX10_line0_283 : decode cX10_line0 283 = .ok (.iconst 1, 1) := by decide +kernel
theorem dX10_line0_284 : decode cX10_line0 284 = .ok (.bipush 9, 2) := by decide +kernel
theorem dX10_line0_286 : decode cX10_line0 286 = .ok (.invokevirtual 242, 3) := by decide +kernel
theorem dX10_line0_289 : decode cX10_line0 289 = .ok (.ifCond .ne 5, 3) := by decide +kernel
theorem dX10_line0_292 : decode cX10_line0 292 = .ok (.iconst 0, 1) := by decide +kernel
theorem dX10_line0_293 : decode cX10_line0 293 = .ok (.ireturn, 1) := by decide +kernel
theorem dX10_line0_294 : decode cX10_line0 294 = .ok (.aload_n 0, 1) := by decide +kernel
theorem dX10_line0_295 : decode cX10_line0 295 = .ok (.getfield 41, 3) := by decide +kernel
theorem dX10_line0_298 : decode cX10_line0 298 = .ok (.bipush 44, 2) := by decide +kernel
theorem dX10_line0_300 : decode cX10_line0 300 = .ok (.iload_n 2, 1) := by decide +kernel
theorem dX10_line0_301 : decode cX10_line0 301 = .ok (.iadd, 1) := by decide +kernel
theorem dX10_line0_302 : decode cX10_line0 302 = .ok (.aload_n 0, 1) := by decide +kernel
theorem dX10_line0_303 : decode cX10_line0 303 = .ok (.getfield 215, 3) := by decide +kernel
theorem dX10_line0_306 : decode cX10_line0 306 = .ok (.iastore, 1) := by decide +kernel
theorem dX10_line0_307 : decode cX10_line0 307 = .ok (.aload_n 0, 1) := by decide +kernel
theorem dX10_line0_308 : decode cX10_line0 308 = .ok (.iconst 0, 1) := by decide +kernel
theorem dX10_line0_309 : decode cX10_line0 309 = .ok (.bipush 9, 2) := by decide +kernel
theorem dX10_line0_311 : decode cX10_line0 311 = .ok (.invokevirtual 242, 3) := by decide +kernel
theorem dX10_line0_314 : decode cX10_line0 314 = .ok (.ifCond .ne 5, 3) := by decide +kernel
theorem dX10_line0_317 : decode cX10_line0 317 = .ok (.iconst 0, 1) := by decide +kernel
theorem dX10_line0_318 : decode cX10_line0 318 = .ok (.ireturn, 1) := by decide +kernel
theorem dX10_line0_319 : decode cX10_line0 319 = .ok (.aload_n 0, 1) := by decide +kernel
theorem dX10_line0_320 : decode cX10_line0 320 = .ok (.getfield 41, 3) := by decide +kernel
theorem dX10_line0_323 : decode cX10_line0 323 = .ok (.bipush 56, 2) := by decide +kernel
theorem dX10_line0_325 : decode cX10_line0 325 = .ok (.iload_n 2, 1) := by decide +kernel
theorem dX10_line0_326 : decode cX10_line0 326 = .ok (.iadd, 1) := by decide +kernel
theorem dX10_line0_327 : decode cX10_line0 327 = .ok (.aload_n 0, 1) := by decide +kernel
theorem dX10_line0_328 : decode cX10_line0 328 = .ok (.getfield 215, 3) := by decide +kernel
theorem dX10_line0_331 : decode cX10_line0 331 = .ok (.iastore, 1) := by decide +kernel
theorem dX10_line0_332 : decode cX10_line0 332 = .ok (.aload_n 0, 1) := by decide +kernel
theorem dX10_line0_333 : decode cX10_line0 333 = .ok (.iconst 0, 1) := by decide +kernel
theorem dX10_line0_334 : decode cX10_line0 334 = .ok (.bipush 9, 2) := by decide +kernel
theorem dX10_line0_336 : decode cX10_line0 336 = .ok (.invokevirtual 242, 3) := by decide +kernel
theorem dX10_line0_339 : decode cX10_line0 339 = .ok (.ifCond .ne 5, 3) := by decide +kernel
theorem dX10_line0_342 : decode cX10_line0 342 = .ok (.iconst 0, 1) := by decide +kernel
theorem dX10_line0_343 : decode cX10_line0 343 = .ok (.ireturn, 1) := by decide +kernel
theorem dX10_line0_344 : decode cX10_line0 344 = .ok (.aload_n 0, 1) := by decide +kernel
theorem dX10_line0_345 : decode cX10_line0 345 = .ok (.getfield 41, 3) := by decide +kernel
theorem dX10_line0_348 : decode cX10_line0 348 = .ok (.bipush 68, 2) := by decide +kernel
theorem dX10_line0_350 : decode cX10_line0 350 = .ok (.iload_n 2, 1) := by decide +kernel
theorem dX10_line0_351 : decode cX10_line0 351 = .ok (.iadd, 1) := by decide +kernel
theorem dX10_line0_352 : decode cX10_line0 352 = .ok (.aload_n 0, 1) := by decide +kernel
theorem dX10_line0_353 : decode cX10_line0 353 = .ok (.getfield 215, 3) := by decide +kernel
theorem dX10_line0_356 : decode cX10_line0 356 = .ok (.iastore, 1) := by decide +kernel
theorem dX10_line0_357 : decode cX10_line0 357 = .ok (.aload_n 0, 1) := by decide +kernel
theorem dX10_line0_358 : decode cX10_line0 358 = .ok (.iconst 1, 1) := by decide +kernel
theorem dX10_line0_359 : decode cX10_line0 359 = .ok (.bipush 99, 2) := by decide +kernel
theorem dX10_line0_361 : decode cX10_line0 361 = .ok (.invokevirtual 242, 3) := by decide +kernel
theorem dX10_line0_364 : decode cX10_line0 364 = .ok (.ifCond .ne 5, 3) := by decide +kernel
theorem dX10_line0_367 : decode cX10_line0 367 = .ok (.iconst 0, 1) := by decide +kernel
theorem dX10_line0_368 : decode cX10_line0 368 = .ok (.ireturn, 1) := by decide +kernel
theorem dX10_line0_369 : decode cX10_line0 369 = .ok (.aload_n 0, 1) := by decide +kernel
theorem dX10_line0_370 : decode cX10_line0 370 = .ok (.getfield 41, 3) := by decide +kernel
theorem dX10_line0_373 : decode cX10_line0 373 = .ok (.bipush 80, 2) := by decide +kernel
theorem dX10_line0_375 : decode cX10_line0 375 = .ok (.iload_n 2, 1) := by decide +kernel
theorem dX10_line0_376 : decode cX10_line0 376 = .ok (.iadd, 1) := by decide +kernel
theorem dX10_line0_377 : decode cX10_line0 377 = .ok (.aload_n 0, 1) := by decide +kernel
theorem dX10_line0_378 : decode cX10_line0 378 = .ok (.getfield 215, 3) := by decide +kernel
theorem dX10_line0_381 : decode cX10_line0 381 = .ok (.iastore, 1) := by decide +kernel
theorem dX10_line0_382 : decode cX10_line0 382 = .ok (.aload_n 0, 1) := by decide +kernel
theorem dX10_line0_383 : decode cX10_line0 383 = .ok (.getfield 41, 3) := by decide +kernel
theorem dX10_line0_386 : decode cX10_line0 386 = .ok (.bipush 6, 2) := by decide +kernel
theorem dX10_line0_388 : decode cX10_line0 388 = .ok (.dup2, 1) := by decide +kernel
theorem dX10_line0_389 : decode cX10_line0 389 = .ok (.iaload, 1) := by decide +kernel
theorem dX10_line0_390 : decode cX10_line0 390 = .ok (.iconst 1, 1) := by decide +kernel
theorem dX10_line0_391 : decode cX10_line0 391 = .ok (.iadd, 1) := by decide +kernel
theorem dX10_line0_392 : decode cX10_line0 392 = .ok (.iastore, 1) := by decide +kernel
theorem dX10_line0_393 : decode cX10_line0 393 = .ok (.iconst 1, 1) := by decide +kernel
theorem dX10_line0_394 : decode cX10_line0 394 = .ok (.ireturn, 1) := by decide +kernel
theorem dX10_line0_395 : decode cX10_line0 395 = .ok (.aload_n 0, 1) := by decide +kernel
theorem dX10_line0_396 : decode cX10_line0 396 = .ok (.ldc2_w 134, 3) := by decide +kernel
theorem dX10_line0_399 : decode cX10_line0 399 = .ok (.invokevirtual 225, 3) := by decide +kernel
theorem dX10_line0_402 : decode cX10_line0 402 = .ok (.ifCond .ne 9, 3) := by decide +kernel
theorem dX10_line0_405 : decode cX10_line0 405 = .ok (.aload_n 0, 1) := by decide +kernel
theorem dX10_line0_406 : decode cX10_line0 406 = .ok (.iconst 1, 1) := by decide +kernel
theorem dX10_line0_407 : decode cX10_line0 407 = .ok (.invokevirtual 205, 3) := by decide +kernel
theorem dX10_line0_410 : decode cX10_line0 410 = .ok (.ireturn, 1) := by decide +kernel
theorem dX10_line0_411 : decode cX10_line0 411 = .ok (.aload_n 0, 1) := by decide +kernel
theorem dX10_line0_412 : decode cX10_line0 412 = .ok (.getfield 41, 3) := by decide +kernel
theorem dX10_line0_415 : decode cX10_line0 415 = .ok (.bipush 7, 2) := by decide +kernel
theorem dX10_line0_417 : decode cX10_line0 417 = .ok (.iaload, 1) := by decide +kernel
theorem dX10_line0_418 : decode cX10_line0 418 = .ok (.istore_n 2, 1) := by decide +kernel
theorem dX10_line0_419 : decode cX10_line0 419 = .ok (.iload_n 2, 1) := by decide +kernel
theorem dX10_line0_420 : decode cX10_line0 420 = .ok (.bipush 6, 2) := by decide +kernel
theorem dX10_line0_422 : decode cX10_line0 422 = .ok (.if_icmp .ne 9, 3) := by decide +kernel
theorem dX10_line0_425 : decode cX10_line0 425 = .ok (.aload_n 0, 1) := by decide +kernel
theorem dX10_line0_426 : decode cX10_line0 426 = .ok (.iconst 4, 1) := by decide +kernel
theorem dX10_line0_427 : decode cX10_line0 427 = .ok (.invokevirtual 205, 3) := by decide +kernel
theorem dX10_line0_430 : decode cX10_line0 430 = .ok (.ireturn, 1) := by decide +kernel
theorem dX10_line0_431 : decode cX10_line0 431 = .ok (.aload_n 0, 1) := by decide +kernel
theorem dX10_line0_432 : decode cX10_line0 432 = .ok (.invokevirtual 208, 3) := by decide +kernel
theorem dX10_line0_435 : decode cX10_line0 435 = .ok (.aload_n 0, 1) := by decide +kernel
theorem dX10_line0_436 : decode cX10_line0 436 = .ok (.bipush 30, 2) := by decide +kernel
theorem dX10_line0_438 : decode cX10_line0 438 = .ok (.iload_n 2, 1) := by decide +kernel
theorem dX10_line0_439 : decode cX10_line0 439 = .ok (.iadd, 1) := by decide +kernel
theorem dX10_line0_440 : decode cX10_line0 440 = .ok (.invokevirtual 245, 3) := by decide +kernel
theorem dX10_line0_443 : decode cX10_line0 443 = .ok (.ifCond .ne 5, 3) := by decide +kernel
theorem dX10_line0_446 : decode cX10_line0 446 = .ok (.iconst 0, 1) := by decide +kernel
theorem dX10_line0_447 : decode cX10_line0 447 = .ok (.ireturn, 1) := by decide +kernel
theorem dX10_line0_448 : decode cX10_line0 448 = .ok (.aload_n 0, 1) := by decide +kernel
theorem dX10_line0_449 : decode cX10_line0 449 = .ok (.iconst 0, 1) := by decide +kernel
theorem dX10_line0_450 : decode cX10_line0 450 = .ok (.bipush 20, 2) := by decide +kernel
theorem dX10_line0_452 : decode cX10_line0 452 = .ok (.invokevirtual 242, 3) := by decide +kernel
theorem dX10_line0_455 : decode cX10_line0 455 = .ok (.ifCond .ne 5, 3) := by decide +kernel
theorem dX10_line0_458 : decode cX10_line0 458 = .ok (.iconst 0, 1) := by decide +kernel
theorem dX10_line0_459 : decode cX10_line0 459 = .ok (.ireturn, 1) := by decide +kernel
theorem dX10_line0_460 : decode cX10_line0 460 = .ok (.aload_n 0, 1) := by decide +kernel
theorem dX10_line0_461 : decode cX10_line0 461 = .ok (.getfield 41, 3) := by decide +kernel
theorem dX10_line0_464 : decode cX10_line0 464 = .ok (.bipush 92, 2) := by decide +kernel
theorem dX10_line0_466 : decode cX10_line0 466 = .ok (.iload_n 2, 1) := by decide +kernel
theorem dX10_line0_467 : decode cX10_line0 467 = .ok (.iadd, 1) := by decide +kernel
theorem dX10_line0_468 : decode cX10_line0 468 = .ok (.aload_n 0, 1) := by decide +kernel
theorem dX10_line0_469 : decode cX10_line0 469 = .ok (.getfield 215, 3) := by decide +kernel
theorem dX10_line0_472 : decode cX10_line0 472 = .ok (.iastore, 1) := by decide +kernel
theorem dX10_line0_473 : decode cX10_line0 473 = .ok (.aload_n 0, 1) := by decide +kernel
theorem dX10_line0_474 : decode cX10_line0 474 = .ok (.iconst 0, 1) := by decide +kernel
theorem dX10_line0_475 : decode cX10_line0 475 = .ok (.bipush 9, 2) := by decide +kernel
theorem dX10_line0_477 : decode cX10_line0 477 = .ok (.invokevirtual 242, 3) := by decide +kernel
theorem dX10_line0_480 : decode cX10_line0 480 = .ok (.ifCond .ne 5, 3) := by decide +kernel
theorem dX10_line0_483 : decode cX10_line0 483 = .ok (.iconst 0, 1) := by decide +kernel
theorem dX10_line0_484 : decode cX10_line0 484 = .ok (.ireturn, 1) := by decide +kernel
theorem dX10_line0_485 : decode cX10_line0 485 = .ok (.aload_n 0, 1) := by decide +kernel
theorem dX10_line0_486 : decode cX10_line0 486 = .ok (.getfield 41, 3) := by decide +kernel
theorem dX10_line0_489 : decode cX10_line0 489 = .ok (.bipush 98, 2) := by decide +kernel
theorem dX10_line0_491 : decode cX10_line0 491 = .ok (.iload_n 2, 1) := by decide +kernel
theorem dX10_line0_492 : decode cX10_line0 492 = .ok (.iadd, 1) := by decide +kernel
theorem dX10_line0_493 : decode cX10_line0 493 = .ok (.aload_n 0, 1) := by decide +kernel
theorem dX10_line0_494 : decode cX10_line0 494 = .ok (.getfield 215, 3) := by decide +kernel
theorem dX10_line0_497 : decode cX10_line0 497 = .ok (.iastore, 1) := by decide +kernel
theorem dX10_line0_498 : decode cX10_line0 498 = .ok (.aload_n 0, 1) := by decide +kernel
theorem dX10_line0_499 : decode cX10_line0 499 = .ok (.getfield 41, 3) := by decide +kernel
theorem dX10_line0_502 : decode cX10_line0 502 = .ok (.bipush 7, 2) := by decide +kernel
theorem dX10_line0_504 : decode cX10_line0 504 = .ok (.dup2, 1) := by decide +kernel
theorem dX10_line0_505 : decode cX10_line0 505 = .ok (.iaload, 1) := by decide +kernel
theorem dX10_line0_506 : decode cX10_line0 506 = .ok (.iconst 1, 1) := by decide +kernel
theorem dX10_line0_507 : decode cX10_line0 507 = .ok (.iadd, 1) := by decide +kernel
theorem dX10_line0_508 : decode cX10_line0 508 = .ok (.iastore, 1) := by decide +kernel
theorem dX10_line0_509 : decode cX10_line0 509 = .ok (.iconst 1, 1) := by decide +kernel
theorem dX10_line0_510 : decode cX10_line0 510 = .ok (.ireturn, 1) := by decide +kernel
theorem dX10_fault_0 : decode cX10_fault 0 = .ok (.aload_n 0, 1) := by decide +kernel
theorem dX10_fault_1 : decode cX10_fault 1 = .ok (.iconst 0, 1) := by decide +kernel
theorem dX10_fault_2 : decode cX10_fault 2 = .ok (.putfield 1, 3) := by decide +kernel
theorem dX10_fault_5 : decode cX10_fault 5 = .ok (.aload_n 0, 1) := by decide +kernel
theorem dX10_fault_6 : decode cX10_fault 6 = .ok (.getfield 196, 3) := by decide +kernel
theorem dX10_fault_9 : decode cX10_fault 9 = .ok (.ireturn, 1) := by decide +kernel
theorem dX10_looksAtMan_0 : decode cX10_looksAtMan 0 = .ok (.aload_n 0, 1) := by decide +kernel
theorem dX10_looksAtMan_1 : decode cX10_looksAtMan 1 = .ok (.invokevirtual 218, 3) := by decide +kernel
theorem dX10_looksAtMan_4 : decode cX10_looksAtMan 4 = .ok (.ifCond .ne 9, 3) := by decide +kernel
theorem dX10_looksAtMan_7 : decode cX10_looksAtMan 7 = .ok (.aload_n 0, 1) := by decide +kernel
theorem dX10_looksAtMan_8 : decode cX10_looksAtMan 8 = .ok (.iconst 1, 1) := by decide +kernel
theorem dX10_looksAtMan_9 : decode cX10_looksAtMan 9 = .ok (.invokevirtual 205, 3) := by decide +kernel
theorem dX10_looksAtMan_12 : decode cX10_looksAtMan 12 = .ok (.ireturn, 1) := by decide +kernel
theorem dX10_looksAtMan_13 : decode cX10_looksAtMan 13 = .ok (.aload_n 0, 1) := by decide +kernel
theorem dX10_looksAtMan_14 : decode cX10_looksAtMan 14 = .ok (.aload_n 0, 1) := by decide +kernel
theorem dX10_looksAtMan_15 : decode cX10_looksAtMan 15 = .ok (.iconst 0, 1) := by decide +kernel
theorem dX10_looksAtMan_16 : decode cX10_looksAtMan 16 = .ok (.aload_n 0, 1) := by decide +kernel
theorem dX10_looksAtMan_17 : decode cX10_looksAtMan 17 = .ok (.getfield 37, 3) := by decide +kernel
theorem dX10_looksAtMan_20 : decode cX10_looksAtMan 20 = .ok (.iconst 5, 1) := by decide +kernel
theorem dX10_looksAtMan_21 : decode cX10_looksAtMan 21 = .ok (.iaload, 1) := by decide +kernel
theorem dX10_looksAtMan_22 : decode cX10_looksAtMan 22 = .ok (.invokevirtual 222, 3) := by decide +kernel
theorem dX10_looksAtMan_25 : decode cX10_looksAtMan 25 = .ok (.putfield 215, 3) := by decide +kernel
theorem dX10_looksAtMan_28 : decode cX10_looksAtMan 28 = .ok (.aload_n 0, 1) := by decide +kernel
theorem dX10_looksAtMan_29 : decode cX10_looksAtMan 29 = .ok (.getfield 215, 3) := by decide +kernel
theorem dX10_looksAtMan_32 : decode cX10_looksAtMan 32 = .ok (.ifCond .ge 11, 3) := by decide +kernel
theorem dX10_looksAtMan_35 : decode cX10_looksAtMan 35 = .ok (.aload_n 0, 1) := by decide +kernel
theorem dX10_looksAtMan_36 : decode cX10_looksAtMan 36 = .ok (.iconst 3, 1) := by decide +kernel
theorem dX10_looksAtMan_37 : decode cX10_looksAtMan 37 = .ok (.invokevirtual 205, 3) := by decide +kernel
theorem dX10_looksAtMan_40 : decode cX10_looksAtMan 40 = .ok (.ifCond .eq 7, 3) := by decide +kernel
theorem dX10_looksAtMan_43 : decode cX10_looksAtMan 43 = .ok (.iconst 1, 1) := by decide +kernel
theorem dX10_looksAtMan_44 : decode cX10_looksAtMan 44 = .ok (.goto 4, 3) := by decide +kernel
theorem dX10_looksAtMan_47 : decode cX10_looksAtMan 47 = .ok (.iconst 0, 1) := by decide +kernel
theorem dX10_looksAtMan_48 : decode cX10_looksAtMan 48 = .ok (.ireturn, 1) := by decide +kernel
theorem dX10_placeIn_0 : decode cX10_placeIn 0 = .ok (.iconst 0, 1) := by decide +kernel
theorem dX10_placeIn_1 : decode cX10_placeIn 1 = .ok (.istore_n 3, 1) := by decide +kernel
theorem dX10_placeIn_2 : decode cX10_placeIn 2 = .ok (.iload_n 3, 1) := by decide +kernel
theorem dX10_placeIn_3 : decode cX10_placeIn 3 = .ok (.iload_n 2, 1) := by decide +kernel
theorem dX10_placeIn_4 : decode cX10_placeIn 4 = .ok (.if_icmp .ge 23, 3) := by decide +kernel
theorem dX10_placeIn_7 : decode cX10_placeIn 7 = .ok (.aload_n 0, 1) := by decide +kernel
theorem dX10_placeIn_8 : decode cX10_placeIn 8 = .ok (.getfield 54, 3) := by decide +kernel
theorem dX10_placeIn_11 : decode cX10_placeIn 11 = .ok (.iconst 1, 1) := by decide +kernel
theorem dX10_placeIn_12 : decode cX10_placeIn 12 = .ok (.iload_n 3, 1) := by decide +kernel
theorem dX10_placeIn_13 : decode cX10_placeIn 13 = .ok (.iadd, 1) := by decide +kernel
theorem dX10_placeIn_14 : decode cX10_placeIn 14 = .ok (.iaload, 1) := by decide +kernel
theorem dX10_placeIn_15 : decode cX10_placeIn 15 = .ok (.iload_n 1, 1) := by decide +kernel
theorem dX10_placeIn_16 : decode cX10_placeIn 16 = .ok (.if_icmp .ne 5, 3) := by decide +kernel
theorem dX10_placeIn_19 : decode cX10_placeIn 19 = .ok (.iload_n 3, 1) := by decide +kernel
theorem dX10_placeIn_20 : decode cX10_placeIn 20 = .ok (.ireturn, 1) := by decide +kernel
theorem dX10_placeIn_21 : decode cX10_placeIn 21 = .ok (.iinc 3 1, 3) := by decide +kernel
theorem dX10_placeIn_24 : decode cX10_placeIn 24 = .ok (.goto (-22), 3) := by decide +kernel
theorem dX10_placeIn_27 : decode cX10_placeIn 27 = .ok (.iconst (-1), 1) := by decide +kernel
theorem dX10_placeIn_28 : decode cX10_placeIn 28 = .ok (.ireturn, 1) := by decide +kernel
theorem dX10_planLine_0 : decode cX10_planLine 0 = .ok (.aload_n 0, 1) := by decide +kernel
theorem dX10_planLine_1 : decode cX10_planLine 1 = .ok (.ldc2_w 136, 3) := by decide +kernel
theorem dX10_planLine_4 : decode cX10_planLine 4 = .ok (.invokevirtual 225, 3) := by decide +kernel
theorem dX10_planLine_7 : decode cX10_planLine 7 = .ok (.ifCond .eq 78, 3) := by decide +kernel
theorem dX10_planLine_10 : decode cX10_planLine 10 = .ok (.aload_n 0, 1) := by decide +kernel
theorem dX10_planLine_11 : decode cX10_planLine 11 = .ok (.iconst 0, 1) := by decide +kernel
theorem dX10_planLine_12 : decode cX10_planLine 12 = .ok (.invokevirtual 239, 3) := by decide +kernel
theorem dX10_planLine_15 : decode cX10_planLine 15 = .ok (.ifCond .ne 5, 3) := by decide +kernel
theorem dX10_planLine_18 : decode cX10_planLine 18 = .ok (.iconst 0, 1) := by decide +kernel
theorem dX10_planLine_19 : decode cX10_planLine 19 = .ok (.ireturn, 1) := by decide +kernel
theorem dX10_planLine_20 : decode cX10_planLine 20 = .ok (.iconst 0, 1) := by decide +kernel
theorem dX10_planLine_21 : decode cX10_planLine 21 = .ok (.istore_n 1, 1) := by decide +kernel
theorem dX10_planLine_22 : decode cX10_planLine 22 = .ok (.iload_n 1, 1) := by decide +kernel
theorem dX10_planLine_23 : decode cX10_planLine 23 = .ok (.iconst 4, 1) := by decide +kernel
theorem dX10_planLine_24 : decode cX10_planLine 24 = .ok (.if_icmp .ge 52, 3) := by decide +kernel
theorem dX10_planLine_27 : decode cX10_planLine 27 = .ok (.aload_n 0, 1) := by decide +kernel
theorem dX10_planLine_28 : decode cX10_planLine 28 = .ok (.invokevirtual 266, 3) := by decide +kernel
theorem dX10_planLine_31 : decode cX10_planLine 31 = .ok (.ifCond .ne 5, 3) := by decide +kernel
theorem dX10_planLine_34 : decode cX10_planLine 34 = .ok (.iconst 0, 1) := by decide +kernel
theorem dX10_planLine_35 : decode cX10_planLine 35 = .ok (.ireturn, 1) := by decide +kernel
theorem dX10_planLine_36 : decode cX10_planLine 36 = .ok (.aload_n 0, 1) := by decide +kernel
theorem dX10_planLine_37 : decode cX10_planLine 37 = .ok (.aload_n 0, 1) := by decide +kernel
theorem dX10_planLine_38 : decode cX10_planLine 38 = .ok (.getfield 215, 3) := by decide +kernel
theorem dX10_planLine_41 : decode cX10_planLine 41 = .ok (.iload_n 1, 1) := by decide +kernel
theorem dX10_planLine_42 : decode cX10_planLine 42 = .ok (.invokevirtual 269, 3) := by decide +kernel
theorem dX10_planLine_45 : decode cX10_planLine 45 = .ok (.ifCond .lt 9, 3) := by decide +kernel
theorem dX10_planLine_48 : decode cX10_planLine 48 = .ok (.aload_n 0, 1) := by decide +kernel
theorem dX10_planLine_49 : decode cX10_planLine 49 = .ok (.iconst 3, 1) := by decide +kernel
theorem dX10_planLine_50 : decode cX10_planLine 50 = .ok (.invokevirtual 205, 3) := by decide +kernel
theorem dX10_planLine_53 : decode cX10_planLine 53 = .ok (.ireturn, 1) := by decide +kernel
theorem dX10_planLine_54 : decode cX10_planLine 54 = .ok (.aload_n 0, 1) := by decide +kernel
theorem dX10_planLine_55 : decode cX10_planLine 55 = .ok (.getfield 54, 3) := by decide +kernel
theorem dX10_planLine_58 : decode cX10_planLine 58 = .ok (.iconst 1, 1) := by decide +kernel
theorem dX10_planLine_59 : decode cX10_planLine 59 = .ok (.iload_n 1, 1) := by decide +kernel
theorem dX10_planLine_60 : decode cX10_planLine 60 = .ok (.iadd, 1) := by decide +kernel
theorem dX10_planLine_61 : decode cX10_planLine 61 = .ok (.aload_n 0, 1) := by decide +kernel
theorem dX10_planLine_62 : decode cX10_planLine 62 = .ok (.getfield 215, 3) := by decide +kernel
theorem dX10_planLine_65 : decode cX10_planLine 65 = .ok (.iastore, 1) := by decide +kernel
theorem dX10_planLine_66 : decode cX10_planLine 66 = .ok (.aload_n 0, 1) := by decide +kernel
theorem dX10_planLine_67 : decode cX10_planLine 67 = .ok (.invokevirtual 208, 3) := by decide +kernel
theorem dX10_planLine_70 : decode cX10_planLine 70 = .ok (.iinc 1 1, 3) := by decide +kernel
theorem dX10_planLine_73 : decode cX10_planLine 73 = .ok (.goto (-51), 3) := by decide +kernel
theorem dX10_planLine_76 : decode cX10_planLine 76 = .ok (.aload_n 0, 1) := by decide +kernel
theorem dX10_planLine_77 : decode cX10_planLine 77 = .ok (.getfield 54, 3) := by decide +kernel
theorem dX10_planLine_80 : decode cX10_planLine 80 = .ok (.iconst 0, 1) := by decide +kernel
theorem dX10_planLine_81 : decode cX10_planLine 81 = .ok (.iconst 1, 1) := by decide +kernel
theorem dX10_planLine_82 : decode cX10_planLine 82 = .ok (.iastore, 1) := by decide +kernel
theorem dX10_planLine_83 : decode cX10_planLine 83 = .ok (.iconst 1, 1) := by decide +kernel
theorem dX10_planLine_84 : decode cX10_planLine 84 = .ok (.ireturn, 1) := by decide +kernel
theorem dX10_planLine_85 : decode cX10_planLine 85 = .ok (.aload_n 0, 1) := by decide +kernel
theorem dX10_planLine_86 : decode cX10_planLine 86 = .ok (.ldc2_w 138, 3) := by decide +kernel
theorem dX10_planLine_89 : decode cX10_planLine 89 = .ok (.invokevirtual 225, 3) := by decide +kernel
theorem dX10_planLine_92 : decode cX10_planLine 92 = .ok (.ifCond .eq 109, 3) := by decide +kernel
theorem dX10_planLine_95 : decode cX10_planLine 95 = .ok (.aload_n 0, 1) := by decide +kernel
theorem dX10_planLine_96 : decode cX10_planLine 96 = .ok (.invokevirtual 208, 3) := by decide +kernel
theorem dX10_planLine_99 : decode cX10_planLine 99 = .ok (.aload_n 0, 1) := by decide +kernel
theorem dX10_planLine_100 : decode cX10_planLine 100 = .ok (.invokevirtual 266, 3) := by decide +kernel
theorem dX10_planLine_103 : decode cX10_planLine 103 = .ok (.ifCond .ne 5, 3) := by decide +kernel
theorem dX10_planLine_106 : decode cX10_planLine 106 = .ok (.iconst 0, 1) := by decide +kernel
theorem dX10_planLine_107 : decode cX10_planLine 107 = .ok (.ireturn, 1) := by decide +kernel
theorem dX10_planLine_108 : decode cX10_planLine 108 = .ok (.aload_n 0, 1) := by decide +kernel
theorem dX10_planLine_109 : decode cX10_planLine 109 = .ok (.getfield 54, 3) := by decide +kernel
theorem dX10_planLine_112 : decode cX10_planLine 112 = .ok (.iconst 0, 1) := by decide +kernel
theorem dX10_planLine_113 : decode cX10_planLine 113 = .ok (.iaload, 1) := by decide +kernel
theorem dX10_planLine_114 : decode cX10_planLine 114 = .ok (.iconst 1, 1) := by decide +kernel
theorem dX10_planLine_115 : decode cX10_planLine 115 = .ok (.if_icmp .ne 15, 3) := by decide +kernel
theorem dX10_planLine_118 : decode cX10_planLine 118 = .ok (.aload_n 0, 1) := by decide +kernel
theorem dX10_planLine_119 : decode cX10_planLine 119 = .ok (.aload_n 0, 1) := by decide +kernel
theorem dX10_planLine_120 : decode cX10_planLine 120 = .ok (.getfield 215, 3) := by decide +kernel
theorem dX10_planLine_123 : decode cX10_planLine 123 = .ok (.iconst 4, 1) := by decide +kernel
theorem dX10_planLine_124 : decode cX10_planLine 124 = .ok (.invokevirtual 269, 3) := by decide +kernel
theorem dX10_planLine_127 : decode cX10_planLine 127 = .ok (.goto 4, 3) := by decide +kernel
theorem dX10_planLine_130 : decode cX10_planLine 130 = .ok (.iconst (-1), 1) := by decide +kernel
theorem dX10_planLine_131 : decode cX10_planLine 131 = .ok (.istore_n 1, 1) := by decide +kernel
theorem dX10_planLine_132 : decode cX10_planLine 132 = .ok (.iload_n 1, 1) := by decide +kernel
theorem dX10_planLine_133 : decode cX10_planLine 133 = .ok (.ifCond .lt 14, 3) := by decide +kernel
theorem dX10_planLine_136 : decode cX10_planLine 136 = .ok (.aload_n 0, 1) := by decide +kernel
theorem dX10_planLine_137 : decode cX10_planLine 137 = .ok (.getfield 272, 3) := by decide +kernel
theorem dX10_planLine_140 : decode cX10_planLine 140 = .ok (.iload_n 1, 1) := by decide +kernel
theorem dX10_planLine_141 : decode cX10_planLine 141 = .ok (.invokestatic 232, 3) := by decide +kernel
theorem dX10_planLine_144 : decode cX10_planLine 144 = .ok (.ifCond .eq 9, 3) := by decide +kernel
theorem dX10_planLine_147 : decode cX10_planLine 147 = .ok (.aload_n 0, 1) := by decide +kernel
theorem dX10_planLine_148 : decode cX10_planLine 148 = .ok (.iconst 3, 1) := by decide +kernel
theorem dX10_planLine_149 : decode cX10_planLine 149 = .ok (.invokevirtual 205, 3) := by decide +kernel
theorem dX10_planLine_152 : decode cX10_planLine 152 = .ok (.ireturn, 1) := by decide +kernel
theorem dX10_planLine_153 : decode cX10_planLine 153 = .ok (.aload_n 0, 1) := by decide +kernel
theorem dX10_planLine_154 : decode cX10_planLine 154 = .ok (.dup, 1) := by decide +kernel
theorem dX10_planLine_155 : decode cX10_planLine 155 = .ok (.getfield 272, 3) := by decide +kernel
theorem dX10_planLine_158 : decode cX10_planLine 158 = .ok (.iconst 1, 1) := by decide +kernel
theorem dX10_planLine_159 : decode cX10_planLine 159 = .ok (.iload_n 1, 1) := by decide +kernel
theorem dX10_planLine_160 : decode cX10_planLine 160 = .ok (.ishl, 1) := by decide +kernel
theorem dX10_planLine_161 : decode cX10_planLine 161 = .ok (.ior, 1) := by decide +kernel
theorem dX10_planLine_162 : decode cX10_planLine 162 = .ok (.putfield 272, 3) := by decide +kernel
theorem dX10_planLine_165 : decode cX10_planLine 165 = .ok (.aload_n 0, 1) := by decide +kernel
theorem dX10_planLine_166 : decode cX10_planLine 166 = .ok (.invokevirtual 208, 3) := by decide +kernel
theorem dX10_planLine_169 : decode cX10_planLine 169 = .ok (.aload_n 0, 1) := by decide +kernel
theorem dX10_planLine_170 : decode cX10_planLine 170 = .ok (.iconst 0, 1) := by decide +kernel
theorem dX10_planLine_171 : decode cX10_planLine 171 = .ok (.aload_n 0, 1) := by decide +kernel
theorem dX10_planLine_172 : decode cX10_planLine 172 = .ok (.getfield 37, 3) := by decide +kernel
theorem dX10_planLine_175 : decode cX10_planLine 175 = .ok (.iconst 0, 1) := by decide +kernel
theorem dX10_planLine_176 : decode cX10_planLine 176 = .ok (.iaload, 1) := by decide +kernel
theorem dX10_planLine_177 : decode cX10_planLine 177 = .ok (.iconst 1, 1) := by decide +kernel
theorem dX10_planLine_178 : decode cX10_planLine 178 = .ok (.isub, 1) := by decide +kernel
theorem dX10_planLine_179 : decode cX10_planLine 179 = .ok (.invokevirtual 242, 3) := by decide +kernel
theorem dX10_planLine_182 : decode cX10_planLine 182 = .ok (.ifCond .ne 5, 3) := by decide +kernel
theorem dX10_planLine_185 : decode cX10_planLine 185 = .ok (.iconst 0, 1) := by decide +kernel
theorem dX10_planLine_186 : decode cX10_planLine 186 = .ok (.ireturn, 1) := by decide +kernel
theorem dX10_planLine_187 : decode cX10_planLine 187 = .ok (.aload_n 0, 1) := by decide +kernel
theorem dX10_planLine_188 : decode cX10_planLine 188 = .ok (.getfield 54, 3) := by decide +kernel
theorem dX10_planLine_191 : decode cX10_planLine 191 = .ok (.iconst 5, 1) := by decide +kernel
theorem dX10_planLine_192 : decode cX10_planLine 192 = .ok (.iload_n 1, 1) := by decide +kernel
theorem dX10_planLine_193 : decode cX10_planLine 193 = .ok (.iadd, 1) := by decide +kernel
theorem dX10_planLine_194 : decode cX10_planLine 194 = .ok (.aload_n 0, 1) := by decide +kernel
theorem dX10_planLine_195 : decode cX10_planLine 195 = .ok (.getfield 215, 3) := by decide +kernel
theorem dX10_planLine_198 : decode cX10_planLine 198 = .ok (.iastore, 1) := by decide +kernel
theorem dX10_planLine_199 : decode cX10_planLine 199 = .ok (.iconst 1, 1) := by decide +kernel
theorem dX10_planLine_200 : decode cX10_planLine 200 = .ok (.ireturn, 1) := by decide +kernel
theorem dX10_planLine_201 : decode cX10_planLine 201 = .ok (.aload_n 0, 1) := by decide +kernel
theorem dX10_planLine_202 : decode cX10_planLine 202 = .ok (.ldc2_w 142, 3) := by decide +kernel
theorem dX10_planLine_205 : decode cX10_planLine 205 = .ok (.invokevirtual 225, 3) := by decide +kernel
theorem dX10_planLine_208 : decode cX10_planLine 208 = .ok (.ifCond .eq 112, 3) := by decide +kernel
theorem dX10_planLine_211 : decode cX10_planLine 211 = .ok (.aload_n 0, 1) := by decide +kernel
theorem dX10_planLine_212 : decode cX10_planLine 212 = .ok (.invokevirtual 208, 3) := by decide +kernel
theorem dX10_planLine_215 : decode cX10_planLine 215 = .ok (.aload_n 0, 1) := by decide +kernel
theorem dX10_planLine_216 : decode cX10_planLine 216 = .ok (.getfield 179, 3) := by decide +kernel
theorem dX10_planLine_219 : decode cX10_planLine 219 = .ok (.iconst 2, 1) := by decide +kernel
theorem dX10_planLine_220 : decode cX10_planLine 220 = .ok (.if_icmp .eq 9, 3) := by decide +kernel
theorem dX10_planLine_223 : decode cX10_planLine 223 = .ok (.aload_n 0, 1) := by decide +kernel
theorem dX10_planLine_224 : decode cX10_planLine 224 = .ok (.iconst 1, 1) := by decide +kernel
theorem dX10_planLine_225 : decode cX10_planLine 225 = .ok (.invokevirtual 205, 3) := by decide +kernel
theorem dX10_planLine_228 : decode cX10_planLine 228 = .ok (.ireturn, 1) := by decide +kernel
theorem dX10_planLine_229 : decode cX10_planLine 229 = .ok (.aload_n 0, 1) := by decide +kernel
theorem dX10_planLine_230 : decode cX10_planLine 230 = .ok (.getfield 189, 3) := by decide +kernel
theorem dX10_planLine_233 : decode cX10_planLine 233 = .ok (.aload_n 0, 1) := by decide +kernel
theorem dX10_planLine_234 : decode cX10_planLine 234 = .ok (.getfield 37, 3) := by decide +kernel
theorem dX10_planLine_237 : decode cX10_planLine 237 = .ok (.bipush 6, 2) := by decide +kernel
theorem dX10_planLine_239 : decode cX10_planLine 239 = .ok (.iaload, 1) := by decide +kernel
theorem dX10_planLine_240 : decode cX10_planLine 240 = .ok (.if_icmp .lt 9, 3) := by decide +kernel
theorem dX10_planLine_243 : decode cX10_planLine 243 = .ok (.aload_n 0, 1) := by decide +kernel
theorem dX10_planLine_244 : decode cX10_planLine 244 = .ok (.iconst 2, 1) := by decide +kernel
theorem dX10_planLine_245 : decode cX10_planLine 245 = .ok (.invokevirtual 205, 3) := by decide +kernel
theorem dX10_planLine_248 : decode cX10_planLine 248 = .ok (.ireturn, 1) := by decide +kernel
theorem dX10_planLine_249 : decode cX10_planLine 249 = .ok (.aload_n 0, 1) := by decide +kernel
theorem dX10_planLine_250 : decode cX10_planLine 250 = .ok (.getfield 275, 3) := by decide +kernel
theorem dX10_planLine_253 : decode cX10_planLine 253 = .ok (.aload_n 0, 1) := by decide +kernel
theorem dX10_planLine_254 : decode cX10_planLine 254 = .ok (.getfield 189, 3) := by decide +kernel
theorem dX10_planLine_257 : decode cX10_planLine 257 = .ok (.invokestatic 232, 3) := by decide +kernel
theorem dX10_planLine_260 : decode cX10_planLine 260 = .ok (.ifCond .eq 9, 3) := by decide +kernel
theorem dX10_planLine_263 : decode cX10_planLine 263 = .ok (.aload_n 0, 1) := by decide +kernel
theorem dX10_planLine_264 : decode cX10_planLine 264 = .ok (.iconst 3, 1) := by decide +kernel
theorem dX10_planLine_265 : decode cX10_planLine 265 = .ok (.invokevirtual 205, 3) := by decide +kernel
theorem dX10_planLine_268 : decode cX10_planLine 268 = .ok (.ireturn, 1) := by decide +kernel
theorem dX10_planLine_269 : decode cX10_planLine 269 = .ok (.aload_n 0, 1) := by decide +kernel
theorem dX10_planLine_270 : decode cX10_planLine 270 = .ok (.dup, 1) := by decide +kernel
theorem dX10_planLine_271 : decode cX10_planLine 271 = .ok (.getfield 275, 3) := by decide +kernel
theorem dX10_planLine_274 : decode cX10_planLine 274 = .ok (.iconst 1, 1) := by decide +kernel
theorem dX10_planLine_275 : decode cX10_planLine 275 = .ok (.aload_n 0, 1) := by decide +kernel
theorem dX10_planLine_276 : decode cX10_planLine 276 = .ok (.getfield 189, 3) := by decide +kernel
theorem dX10_planLine_279 : decode cX10_planLine 279 = .ok (.ishl, 1) := by decide +kernel
theorem dX10_planLine_280 : decode cX10_planLine 280 = .ok (.ior, 1) := by decide +kernel
theorem dX10_planLine_281 : decode cX10_planLine 281 = .ok (.putfield 275, 3) := by decide +kernel
theorem dX10_planLine_284 : decode cX10_planLine 284 = .ok (.aload_n 0, 1) := by decide +kernel
theorem dX10_planLine_285 : decode cX10_planLine 285 = .ok (.getfield 189, 3) := by decide +kernel
theorem dX10_planLine_288 : decode cX10_planLine 288 = .ok (.istore_n 1, 1) := by decide +kernel
theorem dX10_planLine_289 : decode cX10_planLine 289 = .ok (.aload_n 0, 1) := by decide +kernel
theorem dX10_planLine_290 : decode cX10_planLine 290 = .ok (.invokevirtual 208, 3) := by decide +kernel
theorem dX10_planLine_293 : decode cX10_planLine 293 = .ok (.aload_n 0, 1) := by decide +kernel
theorem dX10_planLine_294 : decode cX10_planLine 294 = .ok (.iconst 0, 1) := by decide +kernel
theorem dX10_planLine_295 : decode cX10_planLine 295 = .ok (.bipush 9, 2) := by decide +kernel
theorem dX10_planLine_297 : decode cX10_planLine 297 = .ok (.invokevirtual 242, 3) := by decide +kernel
theorem dX10_planLine_300 : decode cX10_planLine 300 = .ok (.ifCond .ne 5, 3) := by decide +kernel
theorem dX10_planLine_303 : decode cX10_planLine 303 = .ok (.iconst 0, 1) := by decide +kernel
theorem dX10_planLine_304 : decode cX10_planLine 304 = .ok (.ireturn, 1) := by decide +kernel
theorem dX10_planLine_305 : decode cX10_planLine 305 = .ok (.aload_n 0, 1) := by decide +kernel
theorem dX10_planLine_306 : decode cX10_planLine 306 = .ok (.getfield 54, 3) := by decide +kernel
theorem dX10_planLine_309 : decode cX10_planLine 309 = .ok (.bipush 12, 2) := by decide +kernel
theorem dX10_planLine_311 : decode cX10_planLine 311 = .ok (.iload_n 1, 1) := by decide +kernel
theorem dX10_planLine_312 : decode cX10_planLine 312 = .ok (.iadd, 1) := by decide +kernel
theorem dX10_planLine_313 : decode cX10_planLine 313 = .ok (.aload_n 0, 1) := by decide +kernel
theorem dX10_planLine_314 : decode cX10_planLine 314 = .ok (.getfield 215, 3) := by decide +kernel
theorem dX10_planLine_317 : decode cX10_planLine 317 = .ok (.iastore, 1) := by decide +kernel
theorem dX10_planLine_318 : decode cX10_planLine 318 = .ok (.iconst 1, 1) := by decide +kernel
theorem dX10_planLine_319 : decode cX10_planLine 319 = .ok (.ireturn, 1) := by decide +kernel
theorem dX10_planLine_320 : decode cX10_planLine 320 = .ok (.aload_n 0, 1) := by decide +kernel
theorem dX10_planLine_321 : decode cX10_planLine 321 = .ok (.ldc2_w 140, 3) := by decide +kernel
theorem dX10_planLine_324 : decode cX10_planLine 324 = .ok (.invokevirtual 225, 3) := by decide +kernel
theorem dX10_planLine_327 : decode cX10_planLine 327 = .ok (.ifCond .eq 36, 3) := by decide +kernel
theorem dX10_planLine_330 : decode cX10_planLine 330 = .ok (.aload_n 0, 1) := by decide +kernel
theorem dX10_planLine_331 : decode cX10_planLine 331 = .ok (.iconst 1, 1) := by decide +kernel
theorem dX10_planLine_332 : decode cX10_planLine 332 = .ok (.invokevirtual 239, 3) := by decide +kernel
theorem dX10_planLine_335 : decode cX10_planLine 335 = .ok (.ifCond .eq 13, 3) := by decide +kernel
theorem dX10_planLine_338 : decode cX10_planLine 338 = .ok (.aload_n 0, 1) := by decide +kernel
theorem dX10_planLine_339 : decode cX10_planLine 339 = .ok (.iconst 0, 1) := by decide +kernel
theorem dX10_planLine_340 : decode cX10_planLine 340 = .ok (.bipush 99, 2) := by decide +kernel
theorem dX10_planLine_342 : decode cX10_planLine 342 = .ok (.invokevirtual 242, 3) := by decide +kernel
theorem dX10_planLine_345 : decode cX10_planLine 345 = .ok (.ifCond .ne 5, 3) := by decide +kernel
theorem dX10_planLine_348 : decode cX10_planLine 348 = .ok (.iconst 0, 1) := by decide +kernel
theorem dX10_planLine_349 : decode cX10_planLine 349 = .ok (.ireturn, 1) := by decide +kernel
theorem dX10_planLine_350 : decode cX10_planLine 350 = .ok (.aload_n 0, 1) := by decide +kernel
theorem dX10_planLine_351 : decode cX10_planLine 351 = .ok (.getfield 54, 3) := by decide +kernel
theorem dX10_planLine_354 : decode cX10_planLine 354 = .ok (.bipush 9, 2) := by decide +kernel
theorem dX10_planLine_356 : decode cX10_planLine 356 = .ok (.aload_n 0, 1) := by decide +kernel
theorem dX10_planLine_357 : decode cX10_planLine 357 = .ok (.getfield 215, 3) := by decide +kernel
theorem dX10_planLine_360 : decode cX10_planLine 360 = .ok (.iastore, 1) := by decide +kernel
theorem dX10_planLine_361 : decode cX10_planLine 361 = .ok (.iconst 1, 1) := by decide +kernel
theorem dX10_planLine_362 : decode cX10_planLine 362 = .ok (.ireturn, 1) := by decide +kernel
theorem dX10_planLine_363 : decode cX10_planLine 363 = .ok (.aload_n 0, 1) := by decide +kernel
theorem dX10_planLine_364 : decode cX10_planLine 364 = .ok (.ldc2_w 146, 3) := by decide +kernel
theorem dX10_planLine_367 : decode cX10_planLine 367 = .ok (.invokevirtual 225, 3) := by decide +kernel
theorem dX10_planLine_370 : decode cX10_planLine 370 = .ok (.ifCond .eq 36, 3) := by decide +kernel
theorem dX10_planLine_373 : decode cX10_planLine 373 = .ok (.aload_n 0, 1) := by decide +kernel
theorem dX10_planLine_374 : decode cX10_planLine 374 = .ok (.iconst 2, 1) := by decide +kernel
theorem dX10_planLine_375 : decode cX10_planLine 375 = .ok (.invokevirtual 239, 3) := by decide +kernel
theorem dX10_planLine_378 : decode cX10_planLine 378 = .ok (.ifCond .eq 13, 3) := by decide +kernel
theorem dX10_planLine_381 : decode cX10_planLine 381 = .ok (.aload_n 0, 1) := by decide +kernel
theorem dX10_planLine_382 : decode cX10_planLine 382 = .ok (.iconst 1, 1) := by decide +kernel
theorem dX10_planLine_383 : decode cX10_planLine 383 = .ok (.bipush 60, 2) := by decide +kernel
theorem dX10_planLine_385 : decode cX10_planLine 385 = .ok (.invokevirtual 242, 3) := by decide +kernel
theorem dX10_planLine_388 : decode cX10_planLine 388 = .ok (.ifCond .ne 5, 3) := by decide +kernel
theorem dX10_planLine_391 : decode cX10_planLine 391 = .ok (.iconst 0, 1) := by decide +kernel
theorem dX10_planLine_392 : decode cX10_planLine 392 = .ok (.ireturn, 1) := by decide +kernel
theorem dX10_planLine_393 : decode cX10_planLine 393 = .ok (.aload_n 0, 1) := by decide +kernel
theorem dX10_planLine_394 : decode cX10_planLine 394 = .ok (.getfield 54, 3) := by decide +kernel
theorem dX10_planLine_397 : decode cX10_planLine 397 = .ok (.bipush 11, 2) := by decide +kernel
theorem dX10_planLine_399 : decode cX10_planLine 399 = .ok (.aload_n 0, 1) := by decide +kernel
theorem dX10_planLine_400 : decode cX10_planLine 400 = .ok (.getfield 215, 3) := by decide +kernel
theorem dX10_planLine_403 : decode cX10_planLine 403 = .ok (.iastore, 1) := by decide +kernel
theorem dX10_planLine_404 : decode cX10_planLine 404 = .ok (.iconst 1, 1) := by decide +kernel
theorem dX10_planLine_405 : decode cX10_planLine 405 = .ok (.ireturn, 1) := by decide +kernel
theorem dX10_planLine_406 : decode cX10_planLine 406 = .ok (.aload_n 0, 1) := by decide +kernel
theorem dX10_planLine_407 : decode cX10_planLine 407 = .ok (.ldc2_w 144, 3) := by decide +kernel
theorem dX10_planLine_410 : decode cX10_planLine 410 = .ok (.invokevirtual 225, 3) := by decide +kernel
theorem dX10_planLine_413 : decode cX10_planLine 413 = .ok (.ifCond .ne 9, 3) := by decide +kernel
theorem dX10_planLine_416 : decode cX10_planLine 416 = .ok (.aload_n 0, 1) := by decide +kernel
theorem dX10_planLine_417 : decode cX10_planLine 417 = .ok (.iconst 1, 1) := by decide +kernel
theorem dX10_planLine_418 : decode cX10_planLine 418 = .ok (.invokevirtual 205, 3) := by decide +kernel
theorem dX10_planLine_421 : decode cX10_planLine 421 = .ok (.ireturn, 1) := by decide +kernel
theorem dX10_planLine_422 : decode cX10_planLine 422 = .ok (.aload_n 0, 1) := by decide +kernel
theorem dX10_planLine_423 : decode cX10_planLine 423 = .ok (.iconst 3, 1) := by decide +kernel
theorem dX10_planLine_424 : decode cX10_planLine 424 = .ok (.invokevirtual 239, 3) := by decide +kernel
theorem dX10_planLine_427 : decode cX10_planLine 427 = .ok (.ifCond .ne 5, 3) := by decide +kernel
theorem dX10_planLine_430 : decode cX10_planLine 430 = .ok (.iconst 0, 1) := by decide +kernel
theorem dX10_planLine_431 : decode cX10_planLine 431 = .ok (.ireturn, 1) := by decide +kernel
theorem dX10_planLine_432 : decode cX10_planLine 432 = .ok (.aload_n 0, 1) := by decide +kernel
theorem dX10_planLine_433 : decode cX10_planLine 433 = .ok (.invokevirtual 218, 3) := by decide +kernel
theorem dX10_planLine_436 : decode cX10_planLine 436 = .ok (.ifCond .ne 9, 3) := by decide +kernel
theorem dX10_planLine_439 : decode cX10_planLine 439 = .ok (.aload_n 0, 1) := by decide +kernel
theorem dX10_planLine_440 : decode cX10_planLine 440 = .ok (.iconst 1, 1) := by decide +kernel
theorem dX10_planLine_441 : decode cX10_planLine 441 = .ok (.invokevirtual 205, 3) := by decide +kernel
theorem dX10_planLine_444 : decode cX10_planLine 444 = .ok (.ireturn, 1) := by decide +kernel
theorem dX10_planLine_445 : decode cX10_planLine 445 = .ok (.aload_n 0, 1) := by decide +kernel
theorem dX10_planLine_446 : decode cX10_planLine 446 = .ok (.bipush 12, 2) := by decide +kernel
theorem dX10_planLine_448 : decode cX10_planLine 448 = .ok (.aload_n 0, 1) := by decide +kernel
theorem dX10_planLine_449 : decode cX10_planLine 449 = .ok (.getfield 37, 3) := by decide +kernel
theorem dX10_planLine_452 : decode cX10_planLine 452 = .ok (.bipush 7, 2) := by decide +kernel
theorem dX10_planLine_454 : decode cX10_planLine 454 = .ok (.iaload, 1) := by decide +kernel
theorem dX10_planLine_455 : decode cX10_planLine 455 = .ok (.invokevirtual 222, 3) := by decide +kernel
theorem dX10_planLine_458 : decode cX10_planLine 458 = .ok (.istore_n 1, 1) := by decide +kernel
theorem dX10_planLine_459 : decode cX10_planLine 459 = .ok (.iload_n 1, 1) := by decide +kernel
theorem dX10_planLine_460 : decode cX10_planLine 460 = .ok (.ifCond .ge 9, 3) := by decide +kernel
theorem dX10_planLine_463 : decode cX10_planLine 463 = .ok (.aload_n 0, 1) := by decide +kernel
theorem dX10_planLine_464 : decode cX10_planLine 464 = .ok (.iconst 3, 1) := by decide +kernel
theorem dX10_planLine_465 : decode cX10_planLine 465 = .ok (.invokevirtual 205, 3) := by decide +kernel
theorem dX10_planLine_468 : decode cX10_planLine 468 = .ok (.ireturn, 1) := by decide +kernel
theorem dX10_planLine_469 : decode cX10_planLine 469 = .ok (.aload_n 0, 1) := by decide +kernel
theorem dX10_planLine_470 : decode cX10_planLine 470 = .ok (.getfield 54, 3) := by decide +kernel
theorem dX10_planLine_473 : decode cX10_planLine 473 = .ok (.bipush 10, 2) := by decide +kernel
theorem dX10_planLine_475 : decode cX10_planLine 475 = .ok (.iload_n 1, 1) := by decide +kernel
theorem dX10_planLine_476 : decode cX10_planLine 476 = .ok (.iastore, 1) := by decide +kernel
theorem dX10_planLine_477 : decode cX10_planLine 477 = .ok (.aload_n 0, 1) := by decide +kernel
theorem dX10_planLine_478 : decode cX10_planLine 478 = .ok (.invokevirtual 208, 3) := by decide +kernel
theorem dX10_planLine_481 : decode cX10_planLine 481 = .ok (.iconst 1, 1) := by decide +kernel
theorem dX10_planLine_482 : decode cX10_planLine 482 = .ok (.ireturn, 1) := by decide +kernel
theorem dX10_plan_0 : decode cX10_plan 0 = .ok (.aload_n 0, 1) := by decide +kernel
theorem dX10_plan_1 : decode cX10_plan 1 = .ok (.iconst 0, 1) := by decide +kernel
theorem dX10_plan_2 : decode cX10_plan 2 = .ok (.putfield 1, 3) := by decide +kernel
theorem dX10_plan_5 : decode cX10_plan 5 = .ok (.aload_n 0, 1) := by decide +kernel
theorem dX10_plan_6 : decode cX10_plan 6 = .ok (.sipush 400, 3) := by decide +kernel
theorem dX10_plan_9 : decode cX10_plan 9 = .ok (.invokevirtual 248, 3) := by decide +kernel
theorem dX10_plan_12 : decode cX10_plan 12 = .ok (.aload_n 0, 1) := by decide +kernel
theorem dX10_plan_13 : decode cX10_plan 13 = .ok (.iconst 0, 1) := by decide +kernel
theorem dX10_plan_14 : decode cX10_plan 14 = .ok (.putfield 196, 3) := by decide +kernel
theorem dX10_plan_17 : decode cX10_plan 17 = .ok (.aload_n 0, 1) := by decide +kernel
theorem dX10_plan_18 : decode cX10_plan 18 = .ok (.iconst 0, 1) := by decide +kernel
theorem dX10_plan_19 : decode cX10_plan 19 = .ok (.putfield 229, 3) := by decide +kernel
theorem dX10_plan_22 : decode cX10_plan 22 = .ok (.aload_n 0, 1) := by decide +kernel
theorem dX10_plan_23 : decode cX10_plan 23 = .ok (.iconst 0, 1) := by decide +kernel
theorem dX10_plan_24 : decode cX10_plan 24 = .ok (.putfield 272, 3) := by decide +kernel
theorem dX10_plan_27 : decode cX10_plan 27 = .ok (.aload_n 0, 1) := by decide +kernel
theorem dX10_plan_28 : decode cX10_plan 28 = .ok (.iconst 0, 1) := by decide +kernel
theorem dX10_plan_29 : decode cX10_plan 29 = .ok (.putfield 275, 3) := by decide +kernel
theorem dX10_plan_32 : decode cX10_plan 32 = .ok (.iconst 0, 1) := by decide +kernel
theorem dX10_plan_33 : decode cX10_plan 33 = .ok (.istore_n 1, 1) := by decide +kernel
theorem dX10_plan_34 : decode cX10_plan 34 = .ok (.iload_n 1, 1) := by decide +kernel
theorem dX10_plan_35 : decode cX10_plan 35 = .ok (.bipush 24, 2) := by decide +kernel
theorem dX10_plan_37 : decode cX10_plan 37 = .ok (.if_icmp .ge 16, 3) := by decide +kernel
theorem dX10_plan_40 : decode cX10_plan 40 = .ok (.aload_n 0, 1) := by decide +kernel
theorem dX10_plan_41 : decode cX10_plan 41 = .ok (.getfield 54, 3) := by decide +kernel
theorem dX10_plan_44 : decode cX10_plan 44 = .ok (.iload_n 1, 1) := by decide +kernel
theorem dX10_plan_45 : decode cX10_plan 45 = .ok (.iconst 0, 1) := by decide +kernel
theorem dX10_plan_46 : decode cX10_plan 46 = .ok (.iastore, 1) := by decide +kernel
theorem dX10_plan_47 : decode cX10_plan 47 = .ok (.iinc 1 1, 3) := by decide +kernel
theorem dX10_plan_50 : decode cX10_plan 50 = .ok (.goto (-16), 3) := by decide +kernel
theorem dX10_plan_53 : decode cX10_plan 53 = .ok (.iconst 0, 1) := by decide +kernel
theorem dX10_plan_54 : decode cX10_plan 54 = .ok (.istore_n 1, 1) := by decide +kernel
theorem dX10_plan_55 : decode cX10_plan 55 = .ok (.iload_n 1, 1) := by decide +kernel
theorem dX10_plan_56 : decode cX10_plan 56 = .ok (.iconst 4, 1) := by decide +kernel
theorem dX10_plan_57 : decode cX10_plan 57 = .ok (.if_icmp .ge 25, 3) := by decide +kernel
theorem dX10_plan_60 : decode cX10_plan 60 = .ok (.aload_n 0, 1) := by decide +kernel
theorem dX10_plan_61 : decode cX10_plan 61 = .ok (.getfield 54, 3) := by decide +kernel
theorem dX10_plan_64 : decode cX10_plan 64 = .ok (.iconst 5, 1) := by decide +kernel
theorem dX10_plan_65 : decode cX10_plan 65 = .ok (.iload_n 1, 1) := by decide +kernel
theorem dX10_plan_66 : decode cX10_plan 66 = .ok (.iadd, 1) := by decide +kernel
theorem dX10_plan_67 : decode cX10_plan 67 = .ok (.aload_n 0, 1) := by decide +kernel
theorem dX10_plan_68 : decode cX10_plan 68 = .ok (.getfield 37, 3) := by decide +kernel
theorem dX10_plan_71 : decode cX10_plan 71 = .ok (.iconst 0, 1) := by decide +kernel
theorem dX10_plan_72 : decode cX10_plan 72 = .ok (.iaload, 1) := by decide +kernel
theorem dX10_plan_73 : decode cX10_plan 73 = .ok (.iconst 1, 1) := by decide +kernel
theorem dX10_plan_74 : decode cX10_plan 74 = .ok (.isub, 1) := by decide +kernel
theorem dX10_plan_75 : decode cX10_plan 75 = .ok (.iastore, 1) := by decide +kernel
theorem dX10_plan_76 : decode cX10_plan 76 = .ok (.iinc 1 1, 3) := by decide +kernel
theorem dX10_plan_79 : decode cX10_plan 79 = .ok (.goto (-24), 3) := by decide +kernel
theorem dX10_plan_82 : decode cX10_plan 82 = .ok (.iconst 0, 1) := by decide +kernel
theorem dX10_plan_83 : decode cX10_plan 83 = .ok (.istore_n 1, 1) := by decide +kernel
theorem dX10_plan_84 : decode cX10_plan 84 = .ok (.iload_n 1, 1) := by decide +kernel
theorem dX10_plan_85 : decode cX10_plan 85 = .ok (.aload_n 0, 1) := by decide +kernel
theorem dX10_plan_86 : decode cX10_plan 86 = .ok (.getfield 37, 3) := by decide +kernel
theorem dX10_plan_89 : decode cX10_plan 89 = .ok (.bipush 6, 2) := by decide +kernel
theorem dX10_plan_91 : decode cX10_plan 91 = .ok (.iaload, 1) := by decide +kernel
theorem dX10_plan_92 : decode cX10_plan 92 = .ok (.if_icmp .ge 27, 3) := by decide +kernel
theorem dX10_plan_95 : decode cX10_plan 95 = .ok (.aload_n 0, 1) := by decide +kernel
theorem dX10_plan_96 : decode cX10_plan 96 = .ok (.getfield 54, 3) := by decide +kernel
theorem dX10_plan_99 : decode cX10_plan 99 = .ok (.bipush 12, 2) := by decide +kernel
theorem dX10_plan_101 : decode cX10_plan 101 = .ok (.iload_n 1, 1) := by decide +kernel
theorem dX10_plan_102 : decode cX10_plan 102 = .ok (.iadd, 1) := by decide +kernel
theorem dX10_plan_103 : decode cX10_plan 103 = .ok (.aload_n 0, 1) := by decide +kernel
theorem dX10_plan_104 : decode cX10_plan 104 = .ok (.getfield 37, 3) := by decide +kernel
theorem dX10_plan_107 : decode cX10_plan 107 = .ok (.bipush 68, 2) := by decide +kernel
theorem dX10_plan_109 : decode cX10_plan 109 = .ok (.iload_n 1, 1) := by decide +kernel
theorem dX10_plan_110 : decode cX10_plan 110 = .ok (.iadd, 1) := by decide +kernel
theorem dX10_plan_111 : decode cX10_plan 111 = .ok (.iaload, 1) := by decide +kernel
theorem dX10_plan_112 : decode cX10_plan 112 = .ok (.iastore, 1) := by decide +kernel
theorem dX10_plan_113 : decode cX10_plan 113 = .ok (.iinc 1 1, 3) := by decide +kernel
theorem dX10_plan_116 : decode cX10_plan 116 = .ok (.goto (-32), 3) := by decide +kernel
theorem dX10_plan_119 : decode cX10_plan 119 = .ok (.aload_n 0, 1) := by decide +kernel
theorem dX10_plan_120 : decode cX10_plan 120 = .ok (.getfield 54, 3) := by decide +kernel
theorem dX10_plan_123 : decode cX10_plan 123 = .ok (.bipush 11, 2) := by decide +kernel
theorem dX10_plan_125 : decode cX10_plan 125 = .ok (.iconst 1, 1) := by decide +kernel
theorem dX10_plan_126 : decode cX10_plan 126 = .ok (.iastore, 1) := by decide +kernel
theorem dX10_plan_127 : decode cX10_plan 127 = .ok (.iconst 0, 1) := by decide +kernel
theorem dX10_plan_128 : decode cX10_plan 128 = .ok (.istore_n 1, 1) := by decide +kernel
theorem dX10_plan_129 : decode cX10_plan 129 = .ok (.aload_n 0, 1) := by decide +kernel
theorem dX10_plan_130 : decode cX10_plan 130 = .ok (.invokevirtual 208, 3) := by decide +kernel
theorem dX10_plan_133 : decode cX10_plan 133 = .ok (.aload_n 0, 1) := by decide +kernel
theorem dX10_plan_134 : decode cX10_plan 134 = .ok (.getfield 179, 3) := by decide +kernel
theorem dX10_plan_137 : decode cX10_plan 137 = .ok (.ifCond .eq 32, 3) := by decide +kernel
theorem dX10_plan_140 : decode cX10_plan 140 = .ok (.aload_n 0, 1) := by decide +kernel
theorem dX10_plan_141 : decode cX10_plan 141 = .ok (.invokevirtual 278, 3) := by decide +kernel
theorem dX10_plan_144 : decode cX10_plan 144 = .ok (.ifCond .eq 12, 3) := by decide +kernel
theorem dX10_plan_147 : decode cX10_plan 147 = .ok (.aload_n 0, 1) := by decide +kernel
theorem dX10_plan_148 : decode cX10_plan 148 = .ok (.bipush 59, 2) := by decide +kernel
theorem dX10_plan_150 : decode cX10_plan 150 = .ok (.invokevirtual 257, 3) := by decide +kernel
theorem dX10_plan_153 : decode cX10_plan 153 = .ok (.ifCond .ne 10, 3) := by decide +kernel
theorem dX10_plan_156 : decode cX10_plan 156 = .ok (.iconst (-1), 1) := by decide +kernel
theorem dX10_plan_157 : decode cX10_plan 157 = .ok (.aload_n 0, 1) := by decide +kernel
theorem dX10_plan_158 : decode cX10_plan 158 = .ok (.getfield 199, 3) := by decide +kernel
theorem dX10_plan_161 : decode cX10_plan 161 = .ok (.isub, 1) := by decide +kernel
theorem dX10_plan_162 : decode cX10_plan 162 = .ok (.ireturn, 1) := by decide +kernel
theorem dX10_plan_163 : decode cX10_plan 163 = .ok (.iinc 1 1, 3) := by decide +kernel
theorem dX10_plan_166 : decode cX10_plan 166 = .ok (.goto (-33), 3) := by decide +kernel
theorem dX10_plan_169 : decode cX10_plan 169 = .ok (.iconst 0, 1) := by decide +kernel
theorem dX10_plan_170 : decode cX10_plan 170 = .ok (.istore_n 2, 1) := by decide +kernel
theorem dX10_plan_171 : decode cX10_plan 171 = .ok (.iload_n 2, 1) := by decide +kernel
theorem dX10_plan_172 : decode cX10_plan 172 = .ok (.bipush 24, 2) := by decide +kernel
theorem dX10_plan_174 : decode cX10_plan 174 = .ok (.if_icmp .ge 24, 3) := by decide +kernel
theorem dX10_plan_177 : decode cX10_plan 177 = .ok (.aload_n 0, 1) := by decide +kernel
theorem dX10_plan_178 : decode cX10_plan 178 = .ok (.getfield 37, 3) := by decide +kernel
theorem dX10_plan_181 : decode cX10_plan 181 = .ok (.bipush 104, 2) := by decide +kernel
theorem dX10_plan_183 : decode cX10_plan 183 = .ok (.iload_n 2, 1) := by decide +kernel
theorem dX10_plan_184 : decode cX10_plan 184 = .ok (.iadd, 1) := by decide +kernel
theorem dX10_plan_185 : decode cX10_plan 185 = .ok (.aload_n 0, 1) := by decide +kernel
theorem dX10_plan_186 : decode cX10_plan 186 = .ok (.getfield 54, 3) := by decide +kernel
theorem dX10_plan_189 : decode cX10_plan 189 = .ok (.iload_n 2, 1) := by decide +kernel
theorem dX10_plan_190 : decode cX10_plan 190 = .ok (.iaload, 1) := by decide +kernel
theorem dX10_plan_191 : decode cX10_plan 191 = .ok (.iastore, 1) := by decide +kernel
theorem dX10_plan_192 : decode cX10_plan 192 = .ok (.iinc 2 1, 3) := by decide +kernel
theorem dX10_plan_195 : decode cX10_plan 195 = .ok (.goto (-24), 3) := by decide +kernel
theorem dX10_plan_198 : decode cX10_plan 198 = .ok (.aload_n 0, 1) := by decide +kernel
theorem dX10_plan_199 : decode cX10_plan 199 = .ok (.iconst 0, 1) := by decide +kernel
theorem dX10_plan_200 : decode cX10_plan 200 = .ok (.putfield 263, 3) := by decide +kernel
theorem dX10_plan_203 : decode cX10_plan 203 = .ok (.iload_n 1, 1) := by decide +kernel
theorem dX10_plan_204 : decode cX10_plan 204 = .ok (.ireturn, 1) := by decide +kernel
theorem dX10_hasCrew_0 : decode cX10_hasCrew 0 = .ok (.aload_n 0, 1) := by decide +kernel
theorem dX10_hasCrew_1 : decode cX10_hasCrew 1 = .ok (.getfield 37, 3) := by decide +kernel
theorem dX10_hasCrew_4 : decode cX10_hasCrew 4 = .ok (.bipush 104, 2) := by decide +kernel
theorem dX10_hasCrew_6 : decode cX10_hasCrew 6 = .ok (.iaload, 1) := by decide +kernel
theorem dX10_hasCrew_7 : decode cX10_hasCrew 7 = .ok (.iconst 1, 1) := by decide +kernel
theorem dX10_hasCrew_8 : decode cX10_hasCrew 8 = .ok (.if_icmp .ne 7, 3) := by decide +kernel
theorem dX10_hasCrew_11 : decode cX10_hasCrew 11 = .ok (.iconst 1, 1) := by decide +kernel
theorem dX10_hasCrew_12 : decode cX10_hasCrew 12 = .ok (.goto 4, 3) := by decide +kernel
theorem dX10_hasCrew_15 : decode cX10_hasCrew 15 = .ok (.iconst 0, 1) := by decide +kernel
theorem dX10_hasCrew_16 : decode cX10_hasCrew 16 = .ok (.ireturn, 1) := by decide +kernel
theorem dX10_placeOf_0 : decode cX10_placeOf 0 = .ok (.iconst 0, 1) := by decide +kernel
theorem dX10_placeOf_1 : decode cX10_placeOf 1 = .ok (.istore_n 2, 1) := by decide +kernel
theorem dX10_placeOf_2 : decode cX10_placeOf 2 = .ok (.iload_n 2, 1) := by decide +kernel
theorem dX10_placeOf_3 : decode cX10_placeOf 3 = .ok (.iconst 4, 1) := by decide +kernel
theorem dX10_placeOf_4 : decode cX10_placeOf 4 = .ok (.if_icmp .ge 31, 3) := by decide +kernel
theorem dX10_placeOf_7 : decode cX10_placeOf 7 = .ok (.aload_n 0, 1) := by decide +kernel
theorem dX10_placeOf_8 : decode cX10_placeOf 8 = .ok (.invokevirtual 281, 3) := by decide +kernel
theorem dX10_placeOf_11 : decode cX10_placeOf 11 = .ok (.ifCond .eq 24, 3) := by decide +kernel
theorem dX10_placeOf_14 : decode cX10_placeOf 14 = .ok (.aload_n 0, 1) := by decide +kernel
theorem dX10_placeOf_15 : decode cX10_placeOf 15 = .ok (.getfield 37, 3) := by decide +kernel
theorem dX10_placeOf_18 : decode cX10_placeOf 18 = .ok (.bipush 105, 2) := by decide +kernel
theorem dX10_placeOf_20 : decode cX10_placeOf 20 = .ok (.iload_n 2, 1) := by decide +kernel
theorem dX10_placeOf_21 : decode cX10_placeOf 21 = .ok (.iadd, 1) := by decide +kernel
theorem dX10_placeOf_22 : decode cX10_placeOf 22 = .ok (.iaload, 1) := by decide +kernel
theorem dX10_placeOf_23 : decode cX10_placeOf 23 = .ok (.iload_n 1, 1) := by decide +kernel
theorem dX10_placeOf_24 : decode cX10_placeOf 24 = .ok (.if_icmp .ne 5, 3) := by decide +kernel
theorem dX10_placeOf_27 : decode cX10_placeOf 27 = .ok (.iload_n 2, 1) := by decide +kernel
theorem dX10_placeOf_28 : decode cX10_placeOf 28 = .ok (.ireturn, 1) := by decide +kernel
theorem dX10_placeOf_29 : decode cX10_placeOf 29 = .ok (.iinc 2 1, 3) := by decide +kernel
theorem dX10_placeOf_32 : decode cX10_placeOf 32 = .ok (.goto (-30), 3) := by decide +kernel
theorem dX10_placeOf_35 : decode cX10_placeOf 35 = .ok (.iconst (-1), 1) := by decide +kernel
theorem dX10_placeOf_36 : decode cX10_placeOf 36 = .ok (.ireturn, 1) := by decide +kernel
theorem dX10_man_0 : decode cX10_man 0 = .ok (.aload_n 0, 1) := by decide +kernel
theorem dX10_man_1 : decode cX10_man 1 = .ok (.iload_n 1, 1) := by decide +kernel
theorem dX10_man_2 : decode cX10_man 2 = .ok (.iconst 0, 1) := by decide +kernel
theorem dX10_man_3 : decode cX10_man 3 = .ok (.aload_n 0, 1) := by decide +kernel
theorem dX10_man_4 : decode cX10_man 4 = .ok (.getfield 37, 3) := by decide +kernel
theorem dX10_man_7 : decode cX10_man 7 = .ok (.iconst 5, 1) := by decide +kernel
theorem dX10_man_8 : decode cX10_man 8 = .ok (.iaload, 1) := by decide +kernel
theorem dX10_man_9 : decode cX10_man 9 = .ok (.iconst 1, 1) := by decide +kernel
theorem dX10_man_10 : decode cX10_man 10 = .ok (.isub, 1) := by decide +kernel
theorem dX10_man_11 : decode cX10_man 11 = .ok (.invokestatic 211, 3) := by decide +kernel
theorem dX10_man_14 : decode cX10_man 14 = .ok (.ifCond .eq 12, 3) := by decide +kernel
theorem dX10_man_17 : decode cX10_man 17 = .ok (.iload_n 2, 1) := by decide +kernel
theorem dX10_man_18 : decode cX10_man 18 = .ok (.iconst 0, 1) := by decide +kernel
theorem dX10_man_19 : decode cX10_man 19 = .ok (.iconst 4, 1) := by decide +kernel
theorem dX10_man_20 : decode cX10_man 20 = .ok (.invokestatic 211, 3) := by decide +kernel
theorem dX10_man_23 : decode cX10_man 23 = .ok (.ifCond .ne 7, 3) := by decide +kernel
theorem dX10_man_26 : decode cX10_man 26 = .ok (.iconst 1, 1) := by decide +kernel
theorem dX10_man_27 : decode cX10_man 27 = .ok (.goto 4, 3) := by decide +kernel
theorem dX10_man_30 : decode cX10_man 30 = .ok (.iconst 0, 1) := by decide +kernel
theorem dX10_man_31 : decode cX10_man 31 = .ok (.invokevirtual 284, 3) := by decide +kernel
theorem dX10_man_34 : decode cX10_man 34 = .ok (.ifCond .eq 5, 3) := by decide +kernel
theorem dX10_man_37 : decode cX10_man 37 = .ok (.iconst 0, 1) := by decide +kernel
theorem dX10_man_38 : decode cX10_man 38 = .ok (.ireturn, 1) := by decide +kernel
theorem dX10_man_39 : decode cX10_man 39 = .ok (.aload_n 0, 1) := by decide +kernel
theorem dX10_man_40 : decode cX10_man 40 = .ok (.iload_n 1, 1) := by decide +kernel
theorem dX10_man_41 : decode cX10_man 41 = .ok (.invokevirtual 288, 3) := by decide +kernel
theorem dX10_man_44 : decode cX10_man 44 = .ok (.istore_n 3, 1) := by decide +kernel
theorem dX10_man_45 : decode cX10_man 45 = .ok (.iload_n 2, 1) := by decide +kernel
theorem dX10_man_46 : decode cX10_man 46 = .ok (.tableswitch 62 0 3 #[30, 40, 50, 60], 30) := by decide +kernel
theorem dX10_man_76 : decode cX10_man 76 = .ok (.aload_n 0, 1) := by decide +kernel
theorem dX10_man_77 : decode cX10_man 77 = .ok (.getfield 37, 3) := by decide +kernel
theorem dX10_man_80 : decode cX10_man 80 = .ok (.bipush 8, 2) := by decide +kernel
theorem dX10_man_82 : decode cX10_man 82 = .ok (.iload_n 1, 1) := by decide +kernel
theorem dX10_man_83 : decode cX10_man 83 = .ok (.iadd, 1) := by decide +kernel
theorem dX10_man_84 : decode cX10_man 84 = .ok (.iaload, 1) := by decide +kernel
theorem dX10_man_85 : decode cX10_man 85 = .ok (.ireturn, 1) := by decide +kernel
theorem dX10_man_86 : decode cX10_man 86 = .ok (.aload_n 0, 1) := by decide +kernel
theorem dX10_man_87 : decode cX10_man 87 = .ok (.getfield 37, 3) := by decide +kernel
theorem dX10_man_90 : decode cX10_man 90 = .ok (.bipush 20, 2) := by decide +kernel
theorem dX10_man_92 : decode cX10_man 92 = .ok (.iload_n 1, 1) := by decide +kernel
theorem dX10_man_93 : decode cX10_man 93 = .ok (.iadd, 1) := by decide +kernel
theorem dX10_man_94 : decode cX10_man 94 = .ok (.iaload, 1) := by decide +kernel
theorem dX10_man_95 : decode cX10_man 95 = .ok (.ireturn, 1) := by decide +kernel
theorem dX10_man_96 : decode cX10_man 96 = .ok (.aload_n 0, 1) := by decide +kernel
theorem dX10_man_97 : decode cX10_man 97 = .ok (.getfield 37, 3) := by decide +kernel
theorem dX10_man_100 : decode cX10_man 100 = .ok (.bipush 32, 2) := by decide +kernel
theorem dX10_man_102 : decode cX10_man 102 = .ok (.iload_n 1, 1) := by decide +kernel
theorem dX10_man_103 : decode cX10_man 103 = .ok (.iadd, 1) := by decide +kernel
theorem dX10_man_104 : decode cX10_man 104 = .ok (.iaload, 1) := by decide +kernel
theorem dX10_man_105 : decode cX10_man 105 = .ok (.ireturn, 1) := by decide +kernel
theorem dX10_man_106 : decode cX10_man 106 = .ok (.iload_n 3, 1) := by decide +kernel
theorem dX10_man_107 : decode cX10_man 107 = .ok (.ireturn, 1) := by decide +kernel
theorem dX10_man_108 : decode cX10_man 108 = .ok (.iload_n 3, 1) := by decide +kernel
theorem dX10_man_109 : decode cX10_man 109 = .ok (.ifCond .ge 7, 3) := by decide +kernel
theorem dX10_man_112 : decode cX10_man 112 = .ok (.iconst (-1), 1) := by decide +kernel
theorem dX10_man_113 : decode cX10_man 113 = .ok (.goto 12, 3) := by decide +kernel
theorem dX10_man_116 : decode cX10_man 116 = .ok (.aload_n 0, 1) := by decide +kernel
theorem dX10_man_117 : decode cX10_man 117 = .ok (.getfield 37, 3) := by decide +kernel
theorem dX10_man_120 : decode cX10_man 120 = .ok (.bipush 109, 2) := by decide +kernel
theorem dX10_man_122 : decode cX10_man 122 = .ok (.iload_n 3, 1) := by decide +kernel
theorem dX10_man_123 : decode cX10_man 123 = .ok (.iadd, 1) := by decide +kernel
theorem dX10_man_124 : decode cX10_man 124 = .ok (.iaload, 1) := by decide +kernel
theorem dX10_man_125 : decode cX10_man 125 = .ok (.ireturn, 1) := by decide +kernel
theorem dX10_isBend_0 : decode cX10_isBend 0 = .ok (.iload_n 1, 1) := by decide +kernel
theorem dX10_isBend_1 : decode cX10_isBend 1 = .ok (.iconst 0, 1) := by decide +kernel
theorem dX10_isBend_2 : decode cX10_isBend 2 = .ok (.aload_n 0, 1) := by decide +kernel
theorem dX10_isBend_3 : decode cX10_isBend 3 = .ok (.getfield 37, 3) := by decide +kernel
theorem dX10_isBend_6 : decode cX10_isBend 6 = .ok (.bipush 6, 2) := by decide +kernel
theorem dX10_isBend_8 : decode cX10_isBend 8 = .ok (.iaload, 1) := by decide +kernel
theorem dX10_isBend_9 : decode cX10_isBend 9 = .ok (.iconst 1, 1) := by decide +kernel
theorem dX10_isBend_10 : decode cX10_isBend 10 = .ok (.isub, 1) := by decide +kernel
theorem dX10_isBend_11 : decode cX10_isBend 11 = .ok (.invokestatic 211, 3) := by decide +kernel
theorem dX10_isBend_14 : decode cX10_isBend 14 = .ok (.ireturn, 1) := by decide +kernel
theorem dX10_bend_0 : decode cX10_bend 0 = .ok (.aload_n 0, 1) := by decide +kernel
theorem dX10_bend_1 : decode cX10_bend 1 = .ok (.iconst 0, 1) := by decide +kernel
theorem dX10_bend_2 : decode cX10_bend 2 = .ok (.putfield 1, 3) := by decide +kernel
theorem dX10_bend_5 : decode cX10_bend 5 = .ok (.aload_n 0, 1) := by decide +kernel
theorem dX10_bend_6 : decode cX10_bend 6 = .ok (.iload_n 1, 1) := by decide +kernel
theorem dX10_bend_7 : decode cX10_bend 7 = .ok (.invokevirtual 292, 3) := by decide +kernel
theorem dX10_bend_10 : decode cX10_bend 10 = .ok (.ifCond .ne 5, 3) := by decide +kernel
theorem dX10_bend_13 : decode cX10_bend 13 = .ok (.iconst (-1), 1) := by decide +kernel
theorem dX10_bend_14 : decode cX10_bend 14 = .ok (.ireturn, 1) := by decide +kernel
theorem dX10_bend_15 : decode cX10_bend 15 = .ok (.iload_n 2, 1) := by decide +kernel
theorem dX10_bend_16 : decode cX10_bend 16 = .ok (.tableswitch 86 0 4 #[36, 46, 56, 66, 76], 36) := by decide +kernel
theorem dX10_bend_52 : decode cX10_bend 52 = .ok (.aload_n 0, 1) := by decide +kernel
theorem dX10_bend_53 : decode cX10_bend 53 = .ok (.getfield 37, 3) := by decide +kernel
theorem dX10_bend_56 : decode cX10_bend 56 = .ok (.bipush 44, 2) := by decide +kernel
theorem dX10_bend_58 : decode cX10_bend 58 = .ok (.iload_n 1, 1) := by decide +kernel
theorem dX10_bend_59 : decode cX10_bend 59 = .ok (.iadd, 1) := by decide +kernel
theorem dX10_bend_60 : decode cX10_bend 60 = .ok (.iaload, 1) := by decide +kernel
theorem dX10_bend_61 : decode cX10_bend 61 = .ok (.ireturn, 1) := by decide +kernel
theorem dX10_bend_62 : decode cX10_bend 62 = .ok (.aload_n 0, 1) := by decide +kernel
theorem dX10_bend_63 : decode cX10_bend 63 = .ok (.getfield 37, 3) := by decide +kernel
theorem dX10_bend_66 : decode cX10_bend 66 = .ok (.bipush 56, 2) := by decide +kernel
theorem dX10_bend_68 : decode cX10_bend 68 = .ok (.iload_n 1, 1) := by decide +kernel
theorem dX10_bend_69 : decode cX10_bend 69 = .ok (.iadd, 1) := by decide +kernel
theorem dX10_bend_70 : decode cX10_bend 70 = .ok (.iaload, 1) := by decide +kernel
theorem dX10_bend_71 : decode cX10_bend 71 = .ok (.ireturn, 1) := by decide +kernel
theorem dX10_bend_72 : decode cX10_bend 72 = .ok (.aload_n 0, 1) := by decide +kernel
theorem dX10_bend_73 : decode cX10_bend 73 = .ok (.getfield 37, 3) := by decide +kernel
theorem dX10_bend_76 : decode cX10_bend 76 = .ok (.bipush 68, 2) := by decide +kernel
theorem dX10_bend_78 : decode cX10_bend 78 = .ok (.iload_n 1, 1) := by decide +kernel
theorem dX10_bend_79 : decode cX10_bend 79 = .ok (.iadd, 1) := by decide +kernel
theorem dX10_bend_80 : decode cX10_bend 80 = .ok (.iaload, 1) := by decide +kernel
theorem dX10_bend_81 : decode cX10_bend 81 = .ok (.ireturn, 1) := by decide +kernel
theorem dX10_bend_82 : decode cX10_bend 82 = .ok (.aload_n 0, 1) := by decide +kernel
theorem dX10_bend_83 : decode cX10_bend 83 = .ok (.getfield 37, 3) := by decide +kernel
theorem dX10_bend_86 : decode cX10_bend 86 = .ok (.bipush 80, 2) := by decide +kernel
theorem dX10_bend_88 : decode cX10_bend 88 = .ok (.iload_n 1, 1) := by decide +kernel
theorem dX10_bend_89 : decode cX10_bend 89 = .ok (.iadd, 1) := by decide +kernel
theorem dX10_bend_90 : decode cX10_bend 90 = .ok (.iaload, 1) := by decide +kernel
theorem dX10_bend_91 : decode cX10_bend 91 = .ok (.ireturn, 1) := by decide +kernel
theorem dX10_bend_92 : decode cX10_bend 92 = .ok (.aload_n 0, 1) := by decide +kernel
theorem dX10_bend_93 : decode cX10_bend 93 = .ok (.getfield 37, 3) := by decide +kernel
theorem dX10_bend_96 : decode cX10_bend 96 = .ok (.bipush 116, 2) := by decide +kernel
theorem dX10_bend_98 : decode cX10_bend 98 = .ok (.iload_n 1, 1) := by decide +kernel
theorem dX10_bend_99 : decode cX10_bend 99 = .ok (.iadd, 1) := by decide +kernel
theorem dX10_bend_100 : decode cX10_bend 100 = .ok (.iaload, 1) := by decide +kernel
theorem dX10_bend_101 : decode cX10_bend 101 = .ok (.ireturn, 1) := by decide +kernel
theorem dX10_bend_102 : decode cX10_bend 102 = .ok (.iconst (-1), 1) := by decide +kernel
theorem dX10_bend_103 : decode cX10_bend 103 = .ok (.ireturn, 1) := by decide +kernel
theorem dX10_isRunner_0 : decode cX10_isRunner 0 = .ok (.iload_n 1, 1) := by decide +kernel
theorem dX10_isRunner_1 : decode cX10_isRunner 1 = .ok (.iconst 0, 1) := by decide +kernel
theorem dX10_isRunner_2 : decode cX10_isRunner 2 = .ok (.aload_n 0, 1) := by decide +kernel
theorem dX10_isRunner_3 : decode cX10_isRunner 3 = .ok (.getfield 37, 3) := by decide +kernel
theorem dX10_isRunner_6 : decode cX10_isRunner 6 = .ok (.bipush 7, 2) := by decide +kernel
theorem dX10_isRunner_8 : decode cX10_isRunner 8 = .ok (.iaload, 1) := by decide +kernel
theorem dX10_isRunner_9 : decode cX10_isRunner 9 = .ok (.iconst 1, 1) := by decide +kernel
theorem dX10_isRunner_10 : decode cX10_isRunner 10 = .ok (.isub, 1) := by decide +kernel
theorem dX10_isRunner_11 : decode cX10_isRunner 11 = .ok (.invokestatic 211, 3) := by decide +kernel
theorem dX10_isRunner_14 : decode cX10_isRunner 14 = .ok (.ireturn, 1) := by decide +kernel
theorem dX10_takenBy_0 : decode cX10_takenBy 0 = .ok (.aload_n 0, 1) := by decide +kernel
theorem dX10_takenBy_1 : decode cX10_takenBy 1 = .ok (.getfield 37, 3) := by decide +kernel
theorem dX10_takenBy_4 : decode cX10_takenBy 4 = .ok (.bipush 98, 2) := by decide +kernel
theorem dX10_takenBy_6 : decode cX10_takenBy 6 = .ok (.iload_n 1, 1) := by decide +kernel
theorem dX10_takenBy_7 : decode cX10_takenBy 7 = .ok (.iadd, 1) := by decide +kernel
theorem dX10_takenBy_8 : decode cX10_takenBy 8 = .ok (.iaload, 1) := by decide +kernel
theorem dX10_takenBy_9 : decode cX10_takenBy 9 = .ok (.aload_n 0, 1) := by decide +kernel
theorem dX10_takenBy_10 : decode cX10_takenBy 10 = .ok (.getfield 37, 3) := by decide +kernel
theorem dX10_takenBy_13 : decode cX10_takenBy 13 = .ok (.iconst 4, 1) := by decide +kernel
theorem dX10_takenBy_14 : decode cX10_takenBy 14 = .ok (.iaload, 1) := by decide +kernel
theorem dX10_takenBy_15 : decode cX10_takenBy 15 = .ok (.aload_n 0, 1) := by decide +kernel
theorem dX10_takenBy_16 : decode cX10_takenBy 16 = .ok (.getfield 37, 3) := by decide +kernel
theorem dX10_takenBy_19 : decode cX10_takenBy 19 = .ok (.bipush 115, 2) := by decide +kernel
theorem dX10_takenBy_21 : decode cX10_takenBy 21 = .ok (.iaload, 1) := by decide +kernel
theorem dX10_takenBy_22 : decode cX10_takenBy 22 = .ok (.iconst 3, 1) := by decide +kernel
theorem dX10_takenBy_23 : decode cX10_takenBy 23 = .ok (.idiv, 1) := by decide +kernel
theorem dX10_takenBy_24 : decode cX10_takenBy 24 = .ok (.iadd, 1) := by decide +kernel
theorem dX10_takenBy_25 : decode cX10_takenBy 25 = .ok (.aload_n 0, 1) := by decide +kernel
theorem dX10_takenBy_26 : decode cX10_takenBy 26 = .ok (.getfield 37, 3) := by decide +kernel
theorem dX10_takenBy_29 : decode cX10_takenBy 29 = .ok (.bipush 92, 2) := by decide +kernel
theorem dX10_takenBy_31 : decode cX10_takenBy 31 = .ok (.iload_n 1, 1) := by decide +kernel
theorem dX10_takenBy_32 : decode cX10_takenBy 32 = .ok (.iadd, 1) := by decide +kernel
theorem dX10_takenBy_33 : decode cX10_takenBy 33 = .ok (.iaload, 1) := by decide +kernel
theorem dX10_takenBy_34 : decode cX10_takenBy 34 = .ok (.invokestatic 295, 3) := by decide +kernel
theorem dX10_takenBy_37 : decode cX10_takenBy 37 = .ok (.imul, 1) := by decide +kernel
theorem dX10_takenBy_38 : decode cX10_takenBy 38 = .ok (.iconst 4, 1) := by decide +kernel
theorem dX10_takenBy_39 : decode cX10_takenBy 39 = .ok (.idiv, 1) := by decide +kernel
theorem dX10_takenBy_40 : decode cX10_takenBy 40 = .ok (.ireturn, 1) := by decide +kernel
theorem dX10_runner_0 : decode cX10_runner 0 = .ok (.aload_n 0, 1) := by decide +kernel
theorem dX10_runner_1 : decode cX10_runner 1 = .ok (.iconst 0, 1) := by decide +kernel
theorem dX10_runner_2 : decode cX10_runner 2 = .ok (.putfield 1, 3) := by decide +kernel
theorem dX10_runner_5 : decode cX10_runner 5 = .ok (.aload_n 0, 1) := by decide +kernel
theorem dX10_runner_6 : decode cX10_runner 6 = .ok (.iload_n 1, 1) := by decide +kernel
theorem dX10_runner_7 : decode cX10_runner 7 = .ok (.invokevirtual 298, 3) := by decide +kernel
theorem dX10_runner_10 : decode cX10_runner 10 = .ok (.ifCond .ne 5, 3) := by decide +kernel
theorem dX10_runner_13 : decode cX10_runner 13 = .ok (.iconst (-1), 1) := by decide +kernel
theorem dX10_runner_14 : decode cX10_runner 14 = .ok (.ireturn, 1) := by decide +kernel
theorem dX10_runner_15 : decode cX10_runner 15 = .ok (.iload_n 2, 1) := by decide +kernel
theorem dX10_runner_16 : decode cX10_runner 16 = .ok (.ifCond .ne 15, 3) := by decide +kernel
theorem dX10_runner_19 : decode cX10_runner 19 = .ok (.aload_n 0, 1) := by decide +kernel
theorem dX10_runner_20 : decode cX10_runner 20 = .ok (.getfield 37, 3) := by decide +kernel
theorem dX10_runner_23 : decode cX10_runner 23 = .ok (.bipush 92, 2) := by decide +kernel
theorem dX10_runner_25 : decode cX10_runner 25 = .ok (.iload_n 1, 1) := by decide +kernel
theorem dX10_runner_26 : decode cX10_runner 26 = .ok (.iadd, 1) := by decide +kernel
theorem dX10_runner_27 : decode cX10_runner 27 = .ok (.iaload, 1) := by decide +kernel
theorem dX10_runner_28 : decode cX10_runner 28 = .ok (.goto 34, 3) := by decide +kernel
theorem dX10_runner_31 : decode cX10_runner 31 = .ok (.iload_n 2, 1) := by decide +kernel
theorem dX10_runner_32 : decode cX10_runner 32 = .ok (.iconst 1, 1) := by decide +kernel
theorem dX10_runner_33 : decode cX10_runner 33 = .ok (.if_icmp .ne 15, 3) := by decide +kernel
theorem dX10_runner_36 : decode cX10_runner 36 = .ok (.aload_n 0, 1) := by decide +kernel
theorem dX10_runner_37 : decode cX10_runner 37 = .ok (.getfield 37, 3) := by decide +kernel
theorem dX10_runner_40 : decode cX10_runner 40 = .ok (.bipush 98, 2) := by decide +kernel
theorem dX10_runner_42 : decode cX10_runner 42 = .ok (.iload_n 1, 1) := by decide +kernel
theorem dX10_runner_43 : decode cX10_runner 43 = .ok (.iadd, 1) := by decide +kernel
theorem dX10_runner_44 : decode cX10_runner 44 = .ok (.iaload, 1) := by decide +kernel
theorem dX10_runner_45 : decode cX10_runner 45 = .ok (.goto 17, 3) := by decide +kernel
theorem dX10_runner_48 : decode cX10_runner 48 = .ok (.iload_n 2, 1) := by decide +kernel
theorem dX10_runner_49 : decode cX10_runner 49 = .ok (.iconst 2, 1) := by decide +kernel
theorem dX10_runner_50 : decode cX10_runner 50 = .ok (.if_icmp .ne 11, 3) := by decide +kernel
theorem dX10_runner_53 : decode cX10_runner 53 = .ok (.aload_n 0, 1) := by decide +kernel
theorem dX10_runner_54 : decode cX10_runner 54 = .ok (.iload_n 1, 1) := by decide +kernel
theorem dX10_runner_55 : decode cX10_runner 55 = .ok (.invokevirtual 301, 3) := by decide +kernel
theorem dX10_runner_58 : decode cX10_runner 58 = .ok (.goto 4, 3) := by decide +kernel
theorem dX10_runner_61 : decode cX10_runner 61 = .ok (.iconst (-1), 1) := by decide +kernel
theorem dX10_runner_62 : decode cX10_runner 62 = .ok (.ireturn, 1) := by decide +kernel
theorem dX10_draw_0 : decode cX10_draw 0 = .ok (.aload_n 0, 1) := by decide +kernel
theorem dX10_draw_1 : decode cX10_draw 1 = .ok (.aload_n 0, 1) := by decide +kernel
theorem dX10_draw_2 : decode cX10_draw 2 = .ok (.getfield 304, 3) := by decide +kernel
theorem dX10_draw_5 : decode cX10_draw 5 = .ok (.ldc_w 307, 3) := by decide +kernel
theorem dX10_draw_8 : decode cX10_draw 8 = .ok (.imul, 1) := by decide +kernel
theorem dX10_draw_9 : decode cX10_draw 9 = .ok (.sipush 12345, 3) := by decide +kernel
theorem dX10_draw_12 : decode cX10_draw 12 = .ok (.iadd, 1) := by decide +kernel
theorem dX10_draw_13 : decode cX10_draw 13 = .ok (.putfield 304, 3) := by decide +kernel
theorem dX10_draw_16 : decode cX10_draw 16 = .ok (.aload_n 0, 1) := by decide +kernel
theorem dX10_draw_17 : decode cX10_draw 17 = .ok (.getfield 304, 3) := by decide +kernel
theorem dX10_draw_20 : decode cX10_draw 20 = .ok (.bipush 8, 2) := by decide +kernel
theorem dX10_draw_22 : decode cX10_draw 22 = .ok (.iushr, 1) := by decide +kernel
theorem dX10_draw_23 : decode cX10_draw 23 = .ok (.iload_n 1, 1) := by decide +kernel
theorem dX10_draw_24 : decode cX10_draw 24 = .ok (.irem, 1) := by decide +kernel
theorem dX10_draw_25 : decode cX10_draw 25 = .ok (.ireturn, 1) := by decide +kernel
theorem dX10_weightOf_0 : decode cX10_weightOf 0 = .ok (.iconst 0, 1) := by decide +kernel
theorem dX10_weightOf_1 : decode cX10_weightOf 1 = .ok (.istore_n 2, 1) := by decide +kernel
theorem dX10_weightOf_2 : decode cX10_weightOf 2 = .ok (.iconst 0, 1) := by decide +kernel
theorem dX10_weightOf_3 : decode cX10_weightOf 3 = .ok (.istore_n 3, 1) := by decide +kernel
theorem dX10_weightOf_4 : decode cX10_weightOf 4 = .ok (.iload_n 3, 1) := by decide +kernel
theorem dX10_weightOf_5 : decode cX10_weightOf 5 = .ok (.iconst 4, 1) := by decide +kernel
theorem dX10_weightOf_6 : decode cX10_weightOf 6 = .ok (.if_icmp .ge 41, 3) := by decide +kernel
theorem dX10_weightOf_9 : decode cX10_weightOf 9 = .ok (.iload_n 2, 1) := by decide +kernel
theorem dX10_weightOf_10 : decode cX10_weightOf 10 = .ok (.iload_n 1, 1) := by decide +kernel
theorem dX10_weightOf_11 : decode cX10_weightOf 11 = .ok (.iload_n 3, 1) := by decide +kernel
theorem dX10_weightOf_12 : decode cX10_weightOf 12 = .ok (.invokestatic 232, 3) := by decide +kernel
theorem dX10_weightOf_15 : decode cX10_weightOf 15 = .ok (.ifCond .eq 23, 3) := by decide +kernel
theorem dX10_weightOf_18 : decode cX10_weightOf 18 = .ok (.aload_n 0, 1) := by decide +kernel
theorem dX10_weightOf_19 : decode cX10_weightOf 19 = .ok (.getfield 37, 3) := by decide +kernel
theorem dX10_weightOf_22 : decode cX10_weightOf 22 = .ok (.bipush 32, 2) := by decide +kernel
theorem dX10_weightOf_24 : decode cX10_weightOf 24 = .ok (.aload_n 0, 1) := by decide +kernel
theorem dX10_weightOf_25 : decode cX10_weightOf 25 = .ok (.getfield 37, 3) := by decide +kernel
theorem dX10_weightOf_28 : decode cX10_weightOf 28 = .ok (.bipush 105, 2) := by decide +kernel
theorem dX10_weightOf_30 : decode cX10_weightOf 30 = .ok (.iload_n 3, 1) := by decide +kernel
theorem dX10_weightOf_31 : decode cX10_weightOf 31 = .ok (.iadd, 1) := by decide +kernel
theorem dX10_weightOf_32 : decode cX10_weightOf 32 = .ok (.iaload, 1) := by decide +kernel
theorem dX10_weightOf_33 : decode cX10_weightOf 33 = .ok (.iadd, 1) := by decide +kernel
theorem dX10_weightOf_34 : decode cX10_weightOf 34 = .ok (.iaload, 1) := by decide +kernel
theorem dX10_weightOf_35 : decode cX10_weightOf 35 = .ok (.goto 4, 3) := by decide +kernel
theorem dX10_weightOf_38 : decode cX10_weightOf 38 = .ok (.iconst 0, 1) := by decide +kernel
theorem dX10_weightOf_39 : decode cX10_weightOf 39 = .ok (.iadd, 1) := by decide +kernel
theorem dX10_weightOf_40 : decode cX10_weightOf 40 = .ok (.istore_n 2, 1) := by decide +kernel
theorem dX10_weightOf_41 : decode cX10_weightOf 41 = .ok (.iinc 3 1, 3) := by decide +kernel
theorem dX10_weightOf_44 : decode cX10_weightOf 44 = .ok (.goto (-40), 3) := by decide +kernel
theorem dX10_weightOf_47 : decode cX10_weightOf 47 = .ok (.iload_n 2, 1) := by decide +kernel
theorem dX10_weightOf_48 : decode cX10_weightOf 48 = .ok (.ireturn, 1) := by decide +kernel
theorem dX10_pushed_0 : decode cX10_pushed 0 = .ok (.iload_n 1, 1) := by decide +kernel
theorem dX10_pushed_1 : decode cX10_pushed 1 = .ok (.iconst 4, 1) := by decide +kernel
theorem dX10_pushed_2 : decode cX10_pushed 2 = .ok (.isub, 1) := by decide +kernel
theorem dX10_pushed_3 : decode cX10_pushed 3 = .ok (.aload_n 0, 1) := by decide +kernel
theorem dX10_pushed_4 : decode cX10_pushed 4 = .ok (.iload_n 3, 1) := by decide +kernel
theorem dX10_pushed_5 : decode cX10_pushed 5 = .ok (.invokevirtual 308, 3) := by decide +kernel
theorem dX10_pushed_8 : decode cX10_pushed 8 = .ok (.bipush 100, 2) := by decide +kernel
theorem dX10_pushed_10 : decode cX10_pushed 10 = .ok (.idiv, 1) := by decide +kernel
theorem dX10_pushed_11 : decode cX10_pushed 11 = .ok (.isub, 1) := by decide +kernel
theorem dX10_pushed_12 : decode cX10_pushed 12 = .ok (.istore 4, 2) := by decide +kernel
theorem dX10_pushed_14 : decode cX10_pushed 14 = .ok (.iconst 0, 1) := by decide +kernel
theorem dX10_pushed_15 : decode cX10_pushed 15 = .ok (.istore 5, 2) := by decide +kernel
theorem dX10_pushed_17 : decode cX10_pushed 17 = .ok (.iload 5, 2) := by decide +kernel
theorem dX10_pushed_19 : decode cX10_pushed 19 = .ok (.iconst 4, 1) := by decide +kernel
theorem dX10_pushed_20 : decode cX10_pushed 20 = .ok (.if_icmp .ge 70, 3) := by decide +kernel
theorem dX10_pushed_23 : decode cX10_pushed 23 = .ok (.iload 4, 2) := by decide +kernel
theorem dX10_pushed_25 : decode cX10_pushed 25 = .ok (.iload_n 2, 1) := by decide +kernel
theorem dX10_pushed_26 : decode cX10_pushed 26 = .ok (.iload 5, 2) := by decide +kernel
theorem dX10_pushed_28 : decode cX10_pushed 28 = .ok (.invokestatic 232, 3) := by decide +kernel
theorem dX10_pushed_31 : decode cX10_pushed 31 = .ok (.ifCond .ne 49, 3) := by decide +kernel
theorem dX10_pushed_34 : decode cX10_pushed 34 = .ok (.iload_n 1, 1) := by decide +kernel
theorem dX10_pushed_35 : decode cX10_pushed 35 = .ok (.bipush 12, 2) := by decide +kernel
theorem dX10_pushed_37 : decode cX10_pushed 37 = .ok (.aload_n 0, 1) := by decide +kernel
theorem dX10_pushed_38 : decode cX10_pushed 38 = .ok (.getfield 37, 3) := by decide +kernel
theorem dX10_pushed_41 : decode cX10_pushed 41 = .ok (.bipush 20, 2) := by decide +kernel
theorem dX10_pushed_43 : decode cX10_pushed 43 = .ok (.aload_n 0, 1) := by decide +kernel
theorem dX10_pushed_44 : decode cX10_pushed 44 = .ok (.getfield 37, 3) := by decide +kernel
theorem dX10_pushed_47 : decode cX10_pushed 47 = .ok (.bipush 105, 2) := by decide +kernel
theorem dX10_pushed_49 : decode cX10_pushed 49 = .ok (.iload 5, 2) := by decide +kernel
theorem dX10_pushed_51 : decode cX10_pushed 51 = .ok (.iadd, 1) := by decide +kernel
theorem dX10_pushed_52 : decode cX10_pushed 52 = .ok (.iaload, 1) := by decide +kernel
theorem dX10_pushed_53 : decode cX10_pushed 53 = .ok (.iadd, 1) := by decide +kernel
theorem dX10_pushed_54 : decode cX10_pushed 54 = .ok (.iaload, 1) := by decide +kernel
theorem dX10_pushed_55 : decode cX10_pushed 55 = .ok (.imul, 1) := by decide +kernel
theorem dX10_pushed_56 : decode cX10_pushed 56 = .ok (.if_icmp .ge 24, 3) := by decide +kernel
theorem dX10_pushed_59 : decode cX10_pushed 59 = .ok (.aload_n 0, 1) := by decide +kernel
theorem dX10_pushed_60 : decode cX10_pushed 60 = .ok (.getfield 37, 3) := by decide +kernel
theorem dX10_pushed_63 : decode cX10_pushed 63 = .ok (.bipush 8, 2) := by decide +kernel
theorem dX10_pushed_65 : decode cX10_pushed 65 = .ok (.aload_n 0, 1) := by decide +kernel
theorem dX10_pushed_66 : decode cX10_pushed 66 = .ok (.getfield 37, 3) := by decide +kernel
theorem dX10_pushed_69 : decode cX10_pushed 69 = .ok (.bipush 105, 2) := by decide +kernel
theorem dX10_pushed_71 : decode cX10_pushed 71 = .ok (.iload 5, 2) := by decide +kernel
theorem dX10_pushed_73 : decode cX10_pushed 73 = .ok (.iadd, 1) := by decide +kernel
theorem dX10_pushed_74 : decode cX10_pushed 74 = .ok (.iaload, 1) := by decide +kernel
theorem dX10_pushed_75 : decode cX10_pushed 75 = .ok (.iadd, 1) := by decide +kernel
theorem dX10_pushed_76 : decode cX10_pushed 76 = .ok (.iaload, 1) := by decide +kernel
theorem dX10_pushed_77 : decode cX10_pushed 77 = .ok (.goto 4, 3) := by decide +kernel
theorem dX10_pushed_80 : decode cX10_pushed 80 = .ok (.iconst 0, 1) := by decide +kernel
theorem dX10_pushed_81 : decode cX10_pushed 81 = .ok (.iadd, 1) := by decide +kernel
theorem dX10_pushed_82 : decode cX10_pushed 82 = .ok (.istore 4, 2) := by decide +kernel
theorem dX10_pushed_84 : decode cX10_pushed 84 = .ok (.iinc 5 1, 3) := by decide +kernel
theorem dX10_pushed_87 : decode cX10_pushed 87 = .ok (.goto (-70), 3) := by decide +kernel
theorem dX10_pushed_90 : decode cX10_pushed 90 = .ok (.iload 4, 2) := by decide +kernel
theorem dX10_pushed_92 : decode cX10_pushed 92 = .ok (.invokestatic 311, 3) := by decide +kernel
theorem dX10_pushed_95 : decode cX10_pushed 95 = .ok (.ireturn, 1) := by decide +kernel
theorem dX10_isLate_0 : decode cX10_isLate 0 = .ok (.bipush 12, 2) := by decide +kernel
theorem dX10_isLate_2 : decode cX10_isLate 2 = .ok (.aload_n 0, 1) := by decide +kernel
theorem dX10_isLate_3 : decode cX10_isLate 3 = .ok (.getfield 37, 3) := by decide +kernel
theorem dX10_isLate_6 : decode cX10_isLate 6 = .ok (.bipush 20, 2) := by decide +kernel
theorem dX10_isLate_8 : decode cX10_isLate 8 = .ok (.aload_n 0, 1) := by decide +kernel
theorem dX10_isLate_9 : decode cX10_isLate 9 = .ok (.getfield 37, 3) := by decide +kernel
theorem dX10_isLate_12 : decode cX10_isLate 12 = .ok (.bipush 105, 2) := by decide +kernel
theorem dX10_isLate_14 : decode cX10_isLate 14 = .ok (.iload_n 2, 1) := by decide +kernel
theorem dX10_isLate_15 : decode cX10_isLate 15 = .ok (.iadd, 1) := by decide +kernel
theorem dX10_isLate_16 : decode cX10_isLate 16 = .ok (.iaload, 1) := by decide +kernel
theorem dX10_isLate_17 : decode cX10_isLate 17 = .ok (.iadd, 1) := by decide +kernel
theorem dX10_isLate_18 : decode cX10_isLate 18 = .ok (.iaload, 1) := by decide +kernel
theorem dX10_isLate_19 : decode cX10_isLate 19 = .ok (.imul, 1) := by decide +kernel
theorem dX10_isLate_20 : decode cX10_isLate 20 = .ok (.bipush 20, 2) := by decide +kernel
theorem dX10_isLate_22 : decode cX10_isLate 22 = .ok (.iadd, 1) := by decide +kernel
theorem dX10_isLate_23 : decode cX10_isLate 23 = .ok (.iload_n 1, 1) := by decide +kernel
theorem dX10_isLate_24 : decode cX10_isLate 24 = .ok (.if_icmp .ge 7, 3) := by decide +kernel
theorem dX10_isLate_27 : decode cX10_isLate 27 = .ok (.iconst 1, 1) := by decide +kernel
theorem dX10_isLate_28 : decode cX10_isLate 28 = .ok (.goto 4, 3) := by decide +kernel
theorem dX10_isLate_31 : decode cX10_isLate 31 = .ok (.iconst 0, 1) := by decide +kernel
theorem dX10_isLate_32 : decode cX10_isLate 32 = .ok (.ireturn, 1) := by decide +kernel
theorem dX10_starts_0 : decode cX10_starts 0 = .ok (.bipush 30, 2) := by decide +kernel
theorem dX10_starts_2 : decode cX10_starts 2 = .ok (.istore_n 1, 1) := by decide +kernel
theorem dX10_starts_3 : decode cX10_starts 3 = .ok (.iconst 0, 1) := by decide +kernel
theorem dX10_starts_4 : decode cX10_starts 4 = .ok (.istore_n 2, 1) := by decide +kernel
theorem dX10_starts_5 : decode cX10_starts 5 = .ok (.aload_n 0, 1) := by decide +kernel
theorem dX10_starts_6 : decode cX10_starts 6 = .ok (.iconst 0, 1) := by decide +kernel
theorem dX10_starts_7 : decode cX10_starts 7 = .ok (.putfield 314, 3) := by decide +kernel
theorem dX10_starts_10 : decode cX10_starts 10 = .ok (.aload_n 0, 1) := by decide +kernel
theorem dX10_starts_11 : decode cX10_starts 11 = .ok (.iconst 0, 1) := by decide +kernel
theorem dX10_starts_12 : decode cX10_starts 12 = .ok (.putfield 317, 3) := by decide +kernel
theorem dX10_starts_15 : decode cX10_starts 15 = .ok (.aload_n 0, 1) := by decide +kernel
theorem dX10_starts_16 : decode cX10_starts 16 = .ok (.iconst 0, 1) := by decide +kernel
theorem dX10_starts_17 : decode cX10_starts 17 = .ok (.putfield 320, 3) := by decide +kernel
theorem dX10_starts_20 : decode cX10_starts 20 = .ok (.iconst 0, 1) := by decide +kernel
theorem dX10_starts_21 : decode cX10_starts 21 = .ok (.istore_n 3, 1) := by decide +kernel
theorem dX10_starts_22 : decode cX10_starts 22 = .ok (.iload_n 3, 1) := by decide +kernel
theorem dX10_starts_23 : decode cX10_starts 23 = .ok (.aload_n 0, 1) := by decide +kernel
theorem dX10_starts_24 : decode cX10_starts 24 = .ok (.getfield 37, 3) := by decide +kernel
theorem dX10_starts_27 : decode cX10_starts 27 = .ok (.iconst 0, 1) := by decide +kernel
theorem dX10_starts_28 : decode cX10_starts 28 = .ok (.iaload, 1) := by decide +kernel
theorem dX10_starts_29 : decode cX10_starts 29 = .ok (.if_icmp .ge 204, 3) := by decide +kernel
theorem dX10_starts_32 : decode cX10_starts 32 = .ok (.aload_n 0, 1) := by decide +kernel
theorem dX10_starts_33 : decode cX10_starts 33 = .ok (.iload_n 1, 1) := by decide +kernel
theorem dX10_starts_34 : decode cX10_starts 34 = .ok (.aload_n 0, 1) := by decide +kernel
theorem dX10_starts_35 : decode cX10_starts 35 = .ok (.getfield 317, 3) := by decide +kernel
theorem dX10_starts_38 : decode cX10_starts 38 = .ok (.aload_n 0, 1) := by decide +kernel
theorem dX10_starts_39 : decode cX10_starts 39 = .ok (.getfield 320, 3) := by decide +kernel
theorem dX10_starts_42 : decode cX10_starts 42 = .ok (.ior, 1) := by decide +kernel
theorem dX10_starts_43 : decode cX10_starts 43 = .ok (.aload_n 0, 1) := by decide +kernel
theorem dX10_starts_44 : decode cX10_starts 44 = .ok (.getfield 317, 3) := by decide +kernel
theorem dX10_starts_47 : decode cX10_starts 47 = .ok (.invokevirtual 323, 3) := by decide +kernel
theorem dX10_starts_50 : decode cX10_starts 50 = .ok (.istore_n 1, 1) := by decide +kernel
theorem dX10_starts_51 : decode cX10_starts 51 = .ok (.iconst 0, 1) := by decide +kernel
theorem dX10_starts_52 : decode cX10_starts 52 = .ok (.istore 4, 2) := by decide +kernel
theorem dX10_starts_54 : decode cX10_starts 54 = .ok (.iconst 0, 1) := by decide +kernel
theorem dX10_starts_55 : decode cX10_starts 55 = .ok (.istore 5, 2) := by decide +kernel
theorem dX10_starts_57 : decode cX10_starts 57 = .ok (.iload 5, 2) := by decide +kernel
theorem dX10_starts_59 : decode cX10_starts 59 = .ok (.iconst 4, 1) := by decide +kernel
theorem dX10_starts_60 : decode cX10_starts 60 = .ok (.if_icmp .ge 143, 3) := by decide +kernel
theorem dX10_starts_63 : decode cX10_starts 63 = .ok (.aload_n 0, 1) := by decide +kernel
theorem dX10_starts_64 : decode cX10_starts 64 = .ok (.getfield 37, 3) := by decide +kernel
theorem dX10_starts_67 : decode cX10_starts 67 = .ok (.bipush 109, 2) := by decide +kernel
theorem dX10_starts_69 : decode cX10_starts 69 = .ok (.iload 5, 2) := by decide +kernel
theorem dX10_starts_71 : decode cX10_starts 71 = .ok (.iadd, 1) := by decide +kernel
theorem dX10_starts_72 : decode cX10_starts 72 = .ok (.iaload, 1) := by decide +kernel
theorem dX10_starts_73 : decode cX10_starts 73 = .ok (.iload_n 3, 1) := by decide +kernel
theorem dX10_starts_74 : decode cX10_starts 74 = .ok (.if_icmp .eq 6, 3) := by decide +kernel
theorem dX10_starts_77 : decode cX10_starts 77 = .ok (.goto 120, 3) := by decide +kernel
theorem dX10_starts_80 : decode cX10_starts 80 = .ok (.aload_n 0, 1) := by decide +kernel
theorem dX10_starts_81 : decode cX10_starts 81 = .ok (.iload_n 1, 1) := by decide +kernel
theorem dX10_starts_82 : decode cX10_starts 82 = .ok (.iload 5, 2) := by decide +kernel
theorem dX10_starts_84 : decode cX10_starts 84 = .ok (.invokevirtual 327, 3) := by decide +kernel
theorem dX10_starts_87 : decode cX10_starts 87 = .ok (.ifCond .eq 27, 3) := by decide +kernel
theorem dX10_starts_90 : decode cX10_starts 90 = .ok (.aload_n 0, 1) := by decide +kernel
theorem dX10_starts_91 : decode cX10_starts 91 = .ok (.dup, 1) := by decide +kernel
theorem dX10_starts_92 : decode cX10_starts 92 = .ok (.getfield 320, 3) := by decide +kernel
theorem dX10_starts_95 : decode cX10_starts 95 = .ok (.iconst 1, 1) := by decide +kernel
theorem dX10_starts_96 : decode cX10_starts 96 = .ok (.iload 5, 2) := by decide +kernel
theorem dX10_starts_98 : decode cX10_starts 98 = .ok (.ishl, 1) := by decide +kernel
theorem dX10_starts_99 : decode cX10_starts 99 = .ok (.ior, 1) := by decide +kernel
theorem dX10_starts_100 : decode cX10_starts 100 = .ok (.putfield 320, 3) := by decide +kernel
theorem dX10_starts_103 : decode cX10_starts 103 = .ok (.aload_n 0, 1) := by decide +kernel
theorem dX10_starts_104 : decode cX10_starts 104 = .ok (.getfield 60, 3) := by decide +kernel
theorem dX10_starts_107 : decode cX10_starts 107 = .ok (.iload 5, 2) := by decide +kernel
theorem dX10_starts_109 : decode cX10_starts 109 = .ok (.iconst 2, 1) := by decide +kernel
theorem dX10_starts_110 : decode cX10_starts 110 = .ok (.iastore, 1) := by decide +kernel
theorem dX10_starts_111 : decode cX10_starts 111 = .ok (.goto 86, 3) := by decide +kernel
theorem dX10_starts_114 : decode cX10_starts 114 = .ok (.aload_n 0, 1) := by decide +kernel
theorem dX10_starts_115 : decode cX10_starts 115 = .ok (.getfield 60, 3) := by decide +kernel
theorem dX10_starts_118 : decode cX10_starts 118 = .ok (.iload 5, 2) := by decide +kernel
theorem dX10_starts_120 : decode cX10_starts 120 = .ok (.iload 4, 2) := by decide +kernel
theorem dX10_starts_122 : decode cX10_starts 122 = .ok (.ifCond .ne 7, 3) := by decide +kernel
theorem dX10_starts_125 : decode cX10_starts 125 = .ok (.iload_n 2, 1) := by decide +kernel
theorem dX10_starts_126 : decode cX10_starts 126 = .ok (.ifCond .eq 7, 3) := by decide +kernel
theorem dX10_starts_129 : decode cX10_starts 129 = .ok (.iconst 1, 1) := by decide +kernel
theorem dX10_starts_130 : decode cX10_starts 130 = .ok (.goto 4, 3) := by decide +kernel
theorem dX10_starts_133 : decode cX10_starts 133 = .ok (.iconst 0, 1) := by decide +kernel
theorem dX10_starts_134 : decode cX10_starts 134 = .ok (.iastore, 1) := by decide +kernel
theorem dX10_starts_135 : decode cX10_starts 135 = .ok (.aload_n 0, 1) := by decide +kernel
theorem dX10_starts_136 : decode cX10_starts 136 = .ok (.dup, 1) := by decide +kernel
theorem dX10_starts_137 : decode cX10_starts 137 = .ok (.getfield 317, 3) := by decide +kernel
theorem dX10_starts_140 : decode cX10_starts 140 = .ok (.iconst 1, 1) := by decide +kernel
theorem dX10_starts_141 : decode cX10_starts 141 = .ok (.iload 5, 2) := by decide +kernel
theorem dX10_starts_143 : decode cX10_starts 143 = .ok (.ishl, 1) := by decide +kernel
theorem dX10_starts_144 : decode cX10_starts 144 = .ok (.ior, 1) := by decide +kernel
theorem dX10_starts_145 : decode cX10_starts 145 = .ok (.putfield 317, 3) := by decide +kernel
theorem dX10_starts_148 : decode cX10_starts 148 = .ok (.iconst 1, 1) := by decide +kernel
theorem dX10_starts_149 : decode cX10_starts 149 = .ok (.istore 4, 2) := by decide +kernel
theorem dX10_starts_151 : decode cX10_starts 151 = .ok (.iload_n 1, 1) := by decide +kernel
theorem dX10_starts_152 : decode cX10_starts 152 = .ok (.aload_n 0, 1) := by decide +kernel
theorem dX10_starts_153 : decode cX10_starts 153 = .ok (.getfield 60, 3) := by decide +kernel
theorem dX10_starts_156 : decode cX10_starts 156 = .ok (.iload 5, 2) := by decide +kernel
theorem dX10_starts_158 : decode cX10_starts 158 = .ok (.iaload, 1) := by decide +kernel
theorem dX10_starts_159 : decode cX10_starts 159 = .ok (.iconst 1, 1) := by decide +kernel
theorem dX10_starts_160 : decode cX10_starts 160 = .ok (.if_icmp .ne 8, 3) := by decide +kernel
theorem dX10_starts_163 : decode cX10_starts 163 = .ok (.bipush 6, 2) := by decide +kernel
theorem dX10_starts_165 : decode cX10_starts 165 = .ok (.goto 4, 3) := by decide +kernel
theorem dX10_starts_168 : decode cX10_starts 168 = .ok (.iconst 2, 1) := by decide +kernel
theorem dX10_starts_169 : decode cX10_starts 169 = .ok (.isub, 1) := by decide +kernel
theorem dX10_starts_170 : decode cX10_starts 170 = .ok (.aload_n 0, 1) := by decide +kernel
theorem dX10_starts_171 : decode cX10_starts 171 = .ok (.getfield 330, 3) := by decide +kernel
theorem dX10_starts_174 : decode cX10_starts 174 = .ok (.ifCond .eq 17, 3) := by decide +kernel
theorem dX10_starts_177 : decode cX10_starts 177 = .ok (.aload_n 0, 1) := by decide +kernel
theorem dX10_starts_178 : decode cX10_starts 178 = .ok (.bipush 8, 2) := by decide +kernel
theorem dX10_starts_180 : decode cX10_starts 180 = .ok (.invokevirtual 334, 3) := by decide +kernel
theorem dX10_starts_183 : decode cX10_starts 183 = .ok (.ifCond .ne 8, 3) := by decide +kernel
theorem dX10_starts_186 : decode cX10_starts 186 = .ok (.bipush 10, 2) := by decide +kernel
theorem dX10_starts_188 : decode cX10_starts 188 = .ok (.goto 4, 3) := by decide +kernel
theorem dX10_starts_191 : decode cX10_starts 191 = .ok (.iconst 0, 1) := by decide +kernel
theorem dX10_starts_192 : decode cX10_starts 192 = .ok (.isub, 1) := by decide +kernel
theorem dX10_starts_193 : decode cX10_starts 193 = .ok (.invokestatic 311, 3) := by decide +kernel
theorem dX10_starts_196 : decode cX10_starts 196 = .ok (.istore_n 1, 1) := by decide +kernel
theorem dX10_starts_197 : decode cX10_starts 197 = .ok (.iinc 5 1, 3) := by decide +kernel
theorem dX10_starts_200 : decode cX10_starts 200 = .ok (.goto (-143), 3) := by decide +kernel
theorem dX10_starts_203 : decode cX10_starts 203 = .ok (.iload 4, 2) := by decide +kernel
theorem dX10_starts_205 : decode cX10_starts 205 = .ok (.istore_n 2, 1) := by decide +kernel
theorem dX10_starts_206 : decode cX10_starts 206 = .ok (.aload_n 0, 1) := by decide +kernel
theorem dX10_starts_207 : decode cX10_starts 207 = .ok (.getfield 57, 3) := by decide +kernel
theorem dX10_starts_210 : decode cX10_starts 210 = .ok (.iload_n 3, 1) := by decide +kernel
theorem dX10_starts_211 : decode cX10_starts 211 = .ok (.iload_n 1, 1) := by decide +kernel
theorem dX10_starts_212 : decode cX10_starts 212 = .ok (.iastore, 1) := by decide +kernel
theorem dX10_starts_213 : decode cX10_starts 213 = .ok (.aload_n 0, 1) := by decide +kernel
theorem dX10_starts_214 : decode cX10_starts 214 = .ok (.dup, 1) := by decide +kernel
theorem dX10_starts_215 : decode cX10_starts 215 = .ok (.getfield 314, 3) := by decide +kernel
theorem dX10_starts_218 : decode cX10_starts 218 = .ok (.sipush 3000, 3) := by decide +kernel
theorem dX10_starts_221 : decode cX10_starts 221 = .ok (.iload_n 1, 1) := by decide +kernel
theorem dX10_starts_222 : decode cX10_starts 222 = .ok (.idiv, 1) := by decide +kernel
theorem dX10_starts_223 : decode cX10_starts 223 = .ok (.iadd, 1) := by decide +kernel
theorem dX10_starts_224 : decode cX10_starts 224 = .ok (.putfield 314, 3) := by decide +kernel
theorem dX10_starts_227 : decode cX10_starts 227 = .ok (.iinc 3 1, 3) := by decide +kernel
theorem dX10_starts_230 : decode cX10_starts 230 = .ok (.goto (-208), 3) := by decide +kernel
theorem dX10_starts_233 : decode cX10_starts 233 = .ok (.aload_n 0, 1) := by decide +kernel
theorem dX10_starts_234 : decode cX10_starts 234 = .ok (.iload_n 1, 1) := by decide +kernel
theorem dX10_starts_235 : decode cX10_starts 235 = .ok (.putfield 337, 3) := by decide +kernel
theorem dX10_starts_238 : decode cX10_starts 238 = .ok (.return_, 1) := by decide +kernel
theorem dX10_weight_0 : decode cX10_weight 0 = .ok (.aload_n 0, 1) := by decide +kernel
theorem dX10_weight_1 : decode cX10_weight 1 = .ok (.getfield 37, 3) := by decide +kernel
theorem dX10_weight_4 : decode cX10_weight 4 = .ok (.iconst 1, 1) := by decide +kernel
theorem dX10_weight_5 : decode cX10_weight 5 = .ok (.iaload, 1) := by decide +kernel
theorem dX10_weight_6 : decode cX10_weight 6 = .ok (.aload_n 0, 1) := by decide +kernel
theorem dX10_weight_7 : decode cX10_weight 7 = .ok (.getfield 37, 3) := by decide +kernel
theorem dX10_weight_10 : decode cX10_weight 10 = .ok (.bipush 113, 2) := by decide +kernel
theorem dX10_weight_12 : decode cX10_weight 12 = .ok (.iaload, 1) := by decide +kernel
theorem dX10_weight_13 : decode cX10_weight 13 = .ok (.iadd, 1) := by decide +kernel
theorem dX10_weight_14 : decode cX10_weight 14 = .ok (.aload_n 0, 1) := by decide +kernel
theorem dX10_weight_15 : decode cX10_weight 15 = .ok (.aload_n 0, 1) := by decide +kernel
theorem dX10_weight_16 : decode cX10_weight 16 = .ok (.getfield 317, 3) := by decide +kernel
theorem dX10_weight_19 : decode cX10_weight 19 = .ok (.invokevirtual 308, 3) := by decide +kernel
theorem dX10_weight_22 : decode cX10_weight 22 = .ok (.iadd, 1) := by decide +kernel
theorem dX10_weight_23 : decode cX10_weight 23 = .ok (.ireturn, 1) := by decide +kernel
theorem dX10_start_0 : decode cX10_start 0 = .ok (.aload_n 0, 1) := by decide +kernel
theorem dX10_start_1 : decode cX10_start 1 = .ok (.iconst 0, 1) := by decide +kernel
theorem dX10_start_2 : decode cX10_start 2 = .ok (.putfield 1, 3) := by decide +kernel
theorem dX10_start_5 : decode cX10_start 5 = .ok (.aload_n 0, 1) := by decide +kernel
theorem dX10_start_6 : decode cX10_start 6 = .ok (.invokevirtual 281, 3) := by decide +kernel
theorem dX10_start_9 : decode cX10_start 9 = .ok (.ifCond .ne 5, 3) := by decide +kernel
theorem dX10_start_12 : decode cX10_start 12 = .ok (.iconst (-1), 1) := by decide +kernel
theorem dX10_start_13 : decode cX10_start 13 = .ok (.ireturn, 1) := by decide +kernel
theorem dX10_start_14 : decode cX10_start 14 = .ok (.aload_n 0, 1) := by decide +kernel
theorem dX10_start_15 : decode cX10_start 15 = .ok (.invokevirtual 340, 3) := by decide +kernel
theorem dX10_start_18 : decode cX10_start 18 = .ok (.iload_n 1, 1) := by decide +kernel
theorem dX10_start_19 : decode cX10_start 19 = .ok (.tableswitch 58 0 4 #[33, 38, 43, 48, 53], 33) := by decide +kernel
theorem dX10_start_52 : decode cX10_start 52 = .ok (.aload_n 0, 1) := by decide +kernel
theorem dX10_start_53 : decode cX10_start 53 = .ok (.getfield 314, 3) := by decide +kernel
theorem dX10_start_56 : decode cX10_start 56 = .ok (.ireturn, 1) := by decide +kernel
theorem dX10_start_57 : decode cX10_start 57 = .ok (.aload_n 0, 1) := by decide +kernel
theorem dX10_start_58 : decode cX10_start 58 = .ok (.getfield 337, 3) := by decide +kernel
theorem dX10_start_61 : decode cX10_start 61 = .ok (.ireturn, 1) := by decide +kernel
theorem dX10_start_62 : decode cX10_start 62 = .ok (.aload_n 0, 1) := by decide +kernel
theorem dX10_start_63 : decode cX10_start 63 = .ok (.getfield 317, 3) := by decide +kernel
theorem dX10_start_66 : decode cX10_start 66 = .ok (.ireturn, 1) := by decide +kernel
theorem dX10_start_67 : decode cX10_start 67 = .ok (.aload_n 0, 1) := by decide +kernel
theorem dX10_start_68 : decode cX10_start 68 = .ok (.getfield 320, 3) := by decide +kernel
theorem dX10_start_71 : decode cX10_start 71 = .ok (.ireturn, 1) := by decide +kernel
theorem dX10_start_72 : decode cX10_start 72 = .ok (.aload_n 0, 1) := by decide +kernel
theorem dX10_start_73 : decode cX10_start 73 = .ok (.invokevirtual 343, 3) := by decide +kernel
theorem dX10_start_76 : decode cX10_start 76 = .ok (.ireturn, 1) := by decide +kernel
theorem dX10_start_77 : decode cX10_start 77 = .ok (.iconst (-1), 1) := by decide +kernel
theorem dX10_start_78 : decode cX10_start 78 = .ok (.ireturn, 1) := by decide +kernel
theorem dX10_pace_0 : decode cX10_pace 0 = .ok (.aload_n 0, 1) := by decide +kernel
theorem dX10_pace_1 : decode cX10_pace 1 = .ok (.iconst 0, 1) := by decide +kernel
theorem dX10_pace_2 : decode cX10_pace 2 = .ok (.putfield 1, 3) := by decide +kernel
theorem dX10_pace_5 : decode cX10_pace 5 = .ok (.aload_n 0, 1) := by decide +kernel
theorem dX10_pace_6 : decode cX10_pace 6 = .ok (.invokevirtual 281, 3) := by decide +kernel
theorem dX10_pace_9 : decode cX10_pace 9 = .ok (.ifCond .eq 19, 3) := by decide +kernel
theorem dX10_pace_12 : decode cX10_pace 12 = .ok (.iload_n 1, 1) := by decide +kernel
theorem dX10_pace_13 : decode cX10_pace 13 = .ok (.iconst 0, 1) := by decide +kernel
theorem dX10_pace_14 : decode cX10_pace 14 = .ok (.aload_n 0, 1) := by decide +kernel
theorem dX10_pace_15 : decode cX10_pace 15 = .ok (.getfield 37, 3) := by decide +kernel
theorem dX10_pace_18 : decode cX10_pace 18 = .ok (.iconst 0, 1) := by decide +kernel
theorem dX10_pace_19 : decode cX10_pace 19 = .ok (.iaload, 1) := by decide +kernel
theorem dX10_pace_20 : decode cX10_pace 20 = .ok (.iconst 1, 1) := by decide +kernel
theorem dX10_pace_21 : decode cX10_pace 21 = .ok (.isub, 1) := by decide +kernel
theorem dX10_pace_22 : decode cX10_pace 22 = .ok (.invokestatic 211, 3) := by decide +kernel
theorem dX10_pace_25 : decode cX10_pace 25 = .ok (.ifCond .ne 5, 3) := by decide +kernel
theorem dX10_pace_28 : decode cX10_pace 28 = .ok (.iconst (-1), 1) := by decide +kernel
theorem dX10_pace_29 : decode cX10_pace 29 = .ok (.ireturn, 1) := by decide +kernel
theorem dX10_pace_30 : decode cX10_pace 30 = .ok (.aload_n 0, 1) := by decide +kernel
theorem dX10_pace_31 : decode cX10_pace 31 = .ok (.invokevirtual 340, 3) := by decide +kernel
theorem dX10_pace_34 : decode cX10_pace 34 = .ok (.aload_n 0, 1) := by decide +kernel
theorem dX10_pace_35 : decode cX10_pace 35 = .ok (.getfield 57, 3) := by decide +kernel
theorem dX10_pace_38 : decode cX10_pace 38 = .ok (.iload_n 1, 1) := by decide +kernel
theorem dX10_pace_39 : decode cX10_pace 39 = .ok (.iaload, 1) := by decide +kernel
theorem dX10_pace_40 : decode cX10_pace 40 = .ok (.ireturn, 1) := by decide +kernel
theorem dX10_jumps_0 : decode cX10_jumps 0 = .ok (.aload_n 0, 1) := by decide +kernel
theorem dX10_jumps_1 : decode cX10_jumps 1 = .ok (.iconst 0, 1) := by decide +kernel
theorem dX10_jumps_2 : decode cX10_jumps 2 = .ok (.putfield 1, 3) := by decide +kernel
theorem dX10_jumps_5 : decode cX10_jumps 5 = .ok (.aload_n 0, 1) := by decide +kernel
theorem dX10_jumps_6 : decode cX10_jumps 6 = .ok (.invokevirtual 281, 3) := by decide +kernel
theorem dX10_jumps_9 : decode cX10_jumps 9 = .ok (.ifCond .eq 12, 3) := by decide +kernel
theorem dX10_jumps_12 : decode cX10_jumps 12 = .ok (.iload_n 1, 1) := by decide +kernel
theorem dX10_jumps_13 : decode cX10_jumps 13 = .ok (.iconst 0, 1) := by decide +kernel
theorem dX10_jumps_14 : decode cX10_jumps 14 = .ok (.iconst 3, 1) := by decide +kernel
theorem dX10_jumps_15 : decode cX10_jumps 15 = .ok (.invokestatic 211, 3) := by decide +kernel
theorem dX10_jumps_18 : decode cX10_jumps 18 = .ok (.ifCond .ne 5, 3) := by decide +kernel
theorem dX10_jumps_21 : decode cX10_jumps 21 = .ok (.iconst (-1), 1) := by decide +kernel
theorem dX10_jumps_22 : decode cX10_jumps 22 = .ok (.ireturn, 1) := by decide +kernel
theorem dX10_jumps_23 : decode cX10_jumps 23 = .ok (.aload_n 0, 1) := by decide +kernel
theorem dX10_jumps_24 : decode cX10_jumps 24 = .ok (.invokevirtual 340, 3) := by decide +kernel
theorem dX10_jumps_27 : decode cX10_jumps 27 = .ok (.aload_n 0, 1) := by decide +kernel
theorem dX10_jumps_28 : decode cX10_jumps 28 = .ok (.getfield 60, 3) := by decide +kernel
theorem dX10_jumps_31 : decode cX10_jumps 31 = .ok (.iload_n 1, 1) := by decide +kernel
theorem dX10_jumps_32 : decode cX10_jumps 32 = .ok (.iaload, 1) := by decide +kernel
theorem dX10_jumps_33 : decode cX10_jumps 33 = .ok (.ireturn, 1) := by decide +kernel
theorem dX10_inBend_0 : decode cX10_inBend 0 = .ok (.iload_n 2, 1) := by decide +kernel
theorem dX10_inBend_1 : decode cX10_inBend 1 = .ok (.aload_n 0, 1) := by decide +kernel
theorem dX10_inBend_2 : decode cX10_inBend 2 = .ok (.getfield 37, 3) := by decide +kernel
theorem dX10_inBend_5 : decode cX10_inBend 5 = .ok (.bipush 56, 2) := by decide +kernel
theorem dX10_inBend_7 : decode cX10_inBend 7 = .ok (.iload_n 1, 1) := by decide +kernel
theorem dX10_inBend_8 : decode cX10_inBend 8 = .ok (.iadd, 1) := by decide +kernel
theorem dX10_inBend_9 : decode cX10_inBend 9 = .ok (.iaload, 1) := by decide +kernel
theorem dX10_inBend_10 : decode cX10_inBend 10 = .ok (.iload_n 3, 1) := by decide +kernel
theorem dX10_inBend_11 : decode cX10_inBend 11 = .ok (.imul, 1) := by decide +kernel
theorem dX10_inBend_12 : decode cX10_inBend 12 = .ok (.bipush 100, 2) := by decide +kernel
theorem dX10_inBend_14 : decode cX10_inBend 14 = .ok (.idiv, 1) := by decide +kernel
theorem dX10_inBend_15 : decode cX10_inBend 15 = .ok (.iadd, 1) := by decide +kernel
theorem dX10_inBend_16 : decode cX10_inBend 16 = .ok (.iconst 3, 1) := by decide +kernel
theorem dX10_inBend_17 : decode cX10_inBend 17 = .ok (.iload 5, 2) := by decide +kernel
theorem dX10_inBend_19 : decode cX10_inBend 19 = .ok (.aload_n 0, 1) := by decide +kernel
theorem dX10_inBend_20 : decode cX10_inBend 20 = .ok (.getfield 37, 3) := by decide +kernel
theorem dX10_inBend_23 : decode cX10_inBend 23 = .ok (.bipush 68, 2) := by decide +kernel
theorem dX10_inBend_25 : decode cX10_inBend 25 = .ok (.iload_n 1, 1) := by decide +kernel
theorem dX10_inBend_26 : decode cX10_inBend 26 = .ok (.iadd, 1) := by decide +kernel
theorem dX10_inBend_27 : decode cX10_inBend 27 = .ok (.iaload, 1) := by decide +kernel
theorem dX10_inBend_28 : decode cX10_inBend 28 = .ok (.invokestatic 295, 3) := by decide +kernel
theorem dX10_inBend_31 : decode cX10_inBend 31 = .ok (.imul, 1) := by decide +kernel
theorem dX10_inBend_32 : decode cX10_inBend 32 = .ok (.isub, 1) := by decide +kernel
theorem dX10_inBend_33 : decode cX10_inBend 33 = .ok (.iconst 2, 1) := by decide +kernel
theorem dX10_inBend_34 : decode cX10_inBend 34 = .ok (.iload 5, 2) := by decide +kernel
theorem dX10_inBend_36 : decode cX10_inBend 36 = .ok (.iload 4, 2) := by decide +kernel
theorem dX10_inBend_38 : decode cX10_inBend 38 = .ok (.invokestatic 295, 3) := by decide +kernel
theorem dX10_inBend_41 : decode cX10_inBend 41 = .ok (.imul, 1) := by decide +kernel
theorem dX10_inBend_42 : decode cX10_inBend 42 = .ok (.isub, 1) := by decide +kernel
theorem dX10_inBend_43 : decode cX10_inBend 43 = .ok (.aload_n 0, 1) := by decide +kernel
theorem dX10_inBend_44 : decode cX10_inBend 44 = .ok (.getfield 37, 3) := by decide +kernel
theorem dX10_inBend_47 : decode cX10_inBend 47 = .ok (.iconst 3, 1) := by decide +kernel
theorem dX10_inBend_48 : decode cX10_inBend 48 = .ok (.iaload, 1) := by decide +kernel
theorem dX10_inBend_49 : decode cX10_inBend 49 = .ok (.isub, 1) := by decide +kernel
theorem dX10_inBend_50 : decode cX10_inBend 50 = .ok (.aload_n 0, 1) := by decide +kernel
theorem dX10_inBend_51 : decode cX10_inBend 51 = .ok (.getfield 37, 3) := by decide +kernel
theorem dX10_inBend_54 : decode cX10_inBend 54 = .ok (.bipush 115, 2) := by decide +kernel
theorem dX10_inBend_56 : decode cX10_inBend 56 = .ok (.iaload, 1) := by decide +kernel
theorem dX10_inBend_57 : decode cX10_inBend 57 = .ok (.iconst 5, 1) := by decide +kernel
theorem dX10_inBend_58 : decode cX10_inBend 58 = .ok (.idiv, 1) := by decide +kernel
theorem dX10_inBend_59 : decode cX10_inBend 59 = .ok (.isub, 1) := by decide +kernel
theorem dX10_inBend_60 : decode cX10_inBend 60 = .ok (.istore 6, 2) := by decide +kernel
theorem dX10_inBend_62 : decode cX10_inBend 62 = .ok (.iload 6, 2) := by decide +kernel
theorem dX10_inBend_64 : decode cX10_inBend 64 = .ok (.aload_n 0, 1) := by decide +kernel
theorem dX10_inBend_65 : decode cX10_inBend 65 = .ok (.getfield 37, 3) := by decide +kernel
theorem dX10_inBend_68 : decode cX10_inBend 68 = .ok (.bipush 7, 2) := by decide +kernel
theorem dX10_inBend_70 : decode cX10_inBend 70 = .ok (.iaload, 1) := by decide +kernel
theorem dX10_inBend_71 : decode cX10_inBend 71 = .ok (.ifCond .le 17, 3) := by decide +kernel
theorem dX10_inBend_74 : decode cX10_inBend 74 = .ok (.aload_n 0, 1) := by decide +kernel
theorem dX10_inBend_75 : decode cX10_inBend 75 = .ok (.aload_n 0, 1) := by decide +kernel
theorem dX10_inBend_76 : decode cX10_inBend 76 = .ok (.getfield 37, 3) := by decide +kernel
theorem dX10_inBend_79 : decode cX10_inBend 79 = .ok (.bipush 114, 2) := by decide +kernel
theorem dX10_inBend_81 : decode cX10_inBend 81 = .ok (.iaload, 1) := by decide +kernel
theorem dX10_inBend_82 : decode cX10_inBend 82 = .ok (.invokevirtual 301, 3) := by decide +kernel
theorem dX10_inBend_85 : decode cX10_inBend 85 = .ok (.goto 4, 3) := by decide +kernel
theorem dX10_inBend_88 : decode cX10_inBend 88 = .ok (.iconst 0, 1) := by decide +kernel
theorem dX10_inBend_89 : decode cX10_inBend 89 = .ok (.isub, 1) := by decide +kernel
theorem dX10_inBend_90 : decode cX10_inBend 90 = .ok (.invokestatic 311, 3) := by decide +kernel
theorem dX10_inBend_93 : decode cX10_inBend 93 = .ok (.ireturn, 1) := by decide +kernel
theorem dX10_isOver_0 : decode cX10_isOver 0 = .ok (.iload_n 2, 1) := by decide +kernel
theorem dX10_isOver_1 : decode cX10_isOver 1 = .ok (.iload_n 3, 1) := by decide +kernel
theorem dX10_isOver_2 : decode cX10_isOver 2 = .ok (.imul, 1) := by decide +kernel
theorem dX10_isOver_3 : decode cX10_isOver 3 = .ok (.bipush 20, 2) := by decide +kernel
theorem dX10_isOver_5 : decode cX10_isOver 5 = .ok (.aload_n 0, 1) := by decide +kernel
theorem dX10_isOver_6 : decode cX10_isOver 6 = .ok (.getfield 37, 3) := by decide +kernel
theorem dX10_isOver_9 : decode cX10_isOver 9 = .ok (.bipush 80, 2) := by decide +kernel
theorem dX10_isOver_11 : decode cX10_isOver 11 = .ok (.iload_n 1, 1) := by decide +kernel
theorem dX10_isOver_12 : decode cX10_isOver 12 = .ok (.iadd, 1) := by decide +kernel
theorem dX10_isOver_13 : decode cX10_isOver 13 = .ok (.iaload, 1) := by decide +kernel
theorem dX10_isOver_14 : decode cX10_isOver 14 = .ok (.imul, 1) := by decide +kernel
theorem dX10_isOver_15 : decode cX10_isOver 15 = .ok (.if_icmp .le 7, 3) := by decide +kernel
theorem dX10_isOver_18 : decode cX10_isOver 18 = .ok (.iconst 1, 1) := by decide +kernel
theorem dX10_isOver_19 : decode cX10_isOver 19 = .ok (.goto 4, 3) := by decide +kernel
theorem dX10_isOver_22 : decode cX10_isOver 22 = .ok (.iconst 0, 1) := by decide +kernel
theorem dX10_isOver_23 : decode cX10_isOver 23 = .ok (.ireturn, 1) := by decide +kernel
theorem dX10_down_0 : decode cX10_down 0 = .ok (.iload_n 1, 1) := by decide +kernel
theorem dX10_down_1 : decode cX10_down 1 = .ok (.istore_n 3, 1) := by decide +kernel
theorem dX10_down_2 : decode cX10_down 2 = .ok (.iconst 0, 1) := by decide +kernel
theorem dX10_down_3 : decode cX10_down 3 = .ok (.istore 4, 2) := by decide +kernel
theorem dX10_down_5 : decode cX10_down 5 = .ok (.iconst 0, 1) := by decide +kernel
theorem dX10_down_6 : decode cX10_down 6 = .ok (.istore 5, 2) := by decide +kernel
theorem dX10_down_8 : decode cX10_down 8 = .ok (.aload_n 0, 1) := by decide +kernel
theorem dX10_down_9 : decode cX10_down 9 = .ok (.iconst 0, 1) := by decide +kernel
theorem dX10_down_10 : decode cX10_down 10 = .ok (.putfield 346, 3) := by decide +kernel
theorem dX10_down_13 : decode cX10_down 13 = .ok (.aload_n 0, 1) := by decide +kernel
theorem dX10_down_14 : decode cX10_down 14 = .ok (.iconst (-1), 1) := by decide +kernel
theorem dX10_down_15 : decode cX10_down 15 = .ok (.putfield 349, 3) := by decide +kernel
theorem dX10_down_18 : decode cX10_down 18 = .ok (.aload_n 0, 1) := by decide +kernel
theorem dX10_down_19 : decode cX10_down 19 = .ok (.iload_n 3, 1) := by decide +kernel
theorem dX10_down_20 : decode cX10_down 20 = .ok (.putfield 352, 3) := by decide +kernel
theorem dX10_down_23 : decode cX10_down 23 = .ok (.iload_n 2, 1) := by decide +kernel
theorem dX10_down_24 : decode cX10_down 24 = .ok (.aload_n 0, 1) := by decide +kernel
theorem dX10_down_25 : decode cX10_down 25 = .ok (.getfield 37, 3) := by decide +kernel
theorem dX10_down_28 : decode cX10_down 28 = .ok (.iconst 2, 1) := by decide +kernel
theorem dX10_down_29 : decode cX10_down 29 = .ok (.iaload, 1) := by decide +kernel
theorem dX10_down_30 : decode cX10_down 30 = .ok (.if_icmp .le 5, 3) := by decide +kernel
theorem dX10_down_33 : decode cX10_down 33 = .ok (.iconst (-1), 1) := by decide +kernel
theorem dX10_down_34 : decode cX10_down 34 = .ok (.ireturn, 1) := by decide +kernel
theorem dX10_down_35 : decode cX10_down 35 = .ok (.iconst 0, 1) := by decide +kernel
theorem dX10_down_36 : decode cX10_down 36 = .ok (.istore 6, 2) := by decide +kernel
theorem dX10_down_38 : decode cX10_down 38 = .ok (.iload 6, 2) := by decide +kernel
theorem dX10_down_40 : decode cX10_down 40 = .ok (.aload_n 0, 1) := by decide +kernel
theorem dX10_down_41 : decode cX10_down 41 = .ok (.getfield 37, 3) := by decide +kernel
theorem dX10_down_44 : decode cX10_down 44 = .ok (.bipush 6, 2) := by decide +kernel
theorem dX10_down_46 : decode cX10_down 46 = .ok (.iaload, 1) := by decide +kernel
theorem dX10_down_47 : decode cX10_down 47 = .ok (.if_icmp .ge 151, 3) := by decide +kernel
theorem dX10_down_50 : decode cX10_down 50 = .ok (.aload_n 0, 1) := by decide +kernel
theorem dX10_down_51 : decode cX10_down 51 = .ok (.iload 6, 2) := by decide +kernel
theorem dX10_down_53 : decode cX10_down 53 = .ok (.iload_n 3, 1) := by decide +kernel
theorem dX10_down_54 : decode cX10_down 54 = .ok (.iload_n 2, 1) := by decide +kernel
theorem dX10_down_55 : decode cX10_down 55 = .ok (.iload 5, 2) := by decide +kernel
theorem dX10_down_57 : decode cX10_down 57 = .ok (.aload_n 0, 1) := by decide +kernel
theorem dX10_down_58 : decode cX10_down 58 = .ok (.getfield 37, 3) := by decide +kernel
theorem dX10_down_61 : decode cX10_down 61 = .ok (.bipush 116, 2) := by decide +kernel
theorem dX10_down_63 : decode cX10_down 63 = .ok (.iload 6, 2) := by decide +kernel
theorem dX10_down_65 : decode cX10_down 65 = .ok (.iadd, 1) := by decide +kernel
theorem dX10_down_66 : decode cX10_down 66 = .ok (.iaload, 1) := by decide +kernel
theorem dX10_down_67 : decode cX10_down 67 = .ok (.invokevirtual 355, 3) := by decide +kernel
theorem dX10_down_70 : decode cX10_down 70 = .ok (.istore_n 3, 1) := by decide +kernel
theorem dX10_down_71 : decode cX10_down 71 = .ok (.aload_n 0, 1) := by decide +kernel
theorem dX10_down_72 : decode cX10_down 72 = .ok (.iload_n 3, 1) := by decide +kernel
theorem dX10_down_73 : decode cX10_down 73 = .ok (.putfield 352, 3) := by decide +kernel
theorem dX10_down_76 : decode cX10_down 76 = .ok (.aload_n 0, 1) := by decide +kernel
theorem dX10_down_77 : decode cX10_down 77 = .ok (.iload 6, 2) := by decide +kernel
theorem dX10_down_79 : decode cX10_down 79 = .ok (.iload_n 3, 1) := by decide +kernel
theorem dX10_down_80 : decode cX10_down 80 = .ok (.aload_n 0, 1) := by decide +kernel
theorem dX10_down_81 : decode cX10_down 81 = .ok (.getfield 37, 3) := by decide +kernel
theorem dX10_down_84 : decode cX10_down 84 = .ok (.bipush 116, 2) := by decide +kernel
theorem dX10_down_86 : decode cX10_down 86 = .ok (.iload 6, 2) := by decide +kernel
theorem dX10_down_88 : decode cX10_down 88 = .ok (.iadd, 1) := by decide +kernel
theorem dX10_down_89 : decode cX10_down 89 = .ok (.iaload, 1) := by decide +kernel
theorem dX10_down_90 : decode cX10_down 90 = .ok (.invokevirtual 359, 3) := by decide +kernel
theorem dX10_down_93 : decode cX10_down 93 = .ok (.ifCond .eq 11, 3) := by decide +kernel
theorem dX10_down_96 : decode cX10_down 96 = .ok (.aload_n 0, 1) := by decide +kernel
theorem dX10_down_97 : decode cX10_down 97 = .ok (.iload 6, 2) := by decide +kernel
theorem dX10_down_99 : decode cX10_down 99 = .ok (.putfield 349, 3) := by decide +kernel
theorem dX10_down_102 : decode cX10_down 102 = .ok (.iconst (-1), 1) := by decide +kernel
theorem dX10_down_103 : decode cX10_down 103 = .ok (.ireturn, 1) := by decide +kernel
theorem dX10_down_104 : decode cX10_down 104 = .ok (.iload 6, 2) := by decide +kernel
theorem dX10_down_106 : decode cX10_down 106 = .ok (.aload_n 0, 1) := by decide +kernel
theorem dX10_down_107 : decode cX10_down 107 = .ok (.getfield 66, 3) := by decide +kernel
theorem dX10_down_110 : decode cX10_down 110 = .ok (.if_icmp .ne 26, 3) := by decide +kernel
theorem dX10_down_113 : decode cX10_down 113 = .ok (.iload_n 3, 1) := by decide +kernel
theorem dX10_down_114 : decode cX10_down 114 = .ok (.aload_n 0, 1) := by decide +kernel
theorem dX10_down_115 : decode cX10_down 115 = .ok (.getfield 362, 3) := by decide +kernel
theorem dX10_down_118 : decode cX10_down 118 = .ok (.isub, 1) := by decide +kernel
theorem dX10_down_119 : decode cX10_down 119 = .ok (.bipush 10, 2) := by decide +kernel
theorem dX10_down_121 : decode cX10_down 121 = .ok (.if_icmp .ge 8, 3) := by decide +kernel
theorem dX10_down_124 : decode cX10_down 124 = .ok (.bipush 10, 2) := by decide +kernel
theorem dX10_down_126 : decode cX10_down 126 = .ok (.goto 9, 3) := by decide +kernel
theorem dX10_down_129 : decode cX10_down 129 = .ok (.iload_n 3, 1) := by decide +kernel
theorem dX10_down_130 : decode cX10_down 130 = .ok (.aload_n 0, 1) := by decide +kernel
theorem dX10_down_131 : decode cX10_down 131 = .ok (.getfield 362, 3) := by decide +kernel
theorem dX10_down_134 : decode cX10_down 134 = .ok (.isub, 1) := by decide +kernel
theorem dX10_down_135 : decode cX10_down 135 = .ok (.istore_n 3, 1) := by decide +kernel
theorem dX10_down_136 : decode cX10_down 136 = .ok (.aload_n 0, 1) := by decide +kernel
theorem dX10_down_137 : decode cX10_down 137 = .ok (.iload_n 3, 1) := by decide +kernel
theorem dX10_down_138 : decode cX10_down 138 = .ok (.putfield 352, 3) := by decide +kernel
theorem dX10_down_141 : decode cX10_down 141 = .ok (.aload_n 0, 1) := by decide +kernel
theorem dX10_down_142 : decode cX10_down 142 = .ok (.getfield 63, 3) := by decide +kernel
theorem dX10_down_145 : decode cX10_down 145 = .ok (.iload 6, 2) := by decide +kernel
theorem dX10_down_147 : decode cX10_down 147 = .ok (.iload_n 3, 1) := by decide +kernel
theorem dX10_down_148 : decode cX10_down 148 = .ok (.iastore, 1) := by decide +kernel
theorem dX10_down_149 : decode cX10_down 149 = .ok (.aload_n 0, 1) := by decide +kernel
theorem dX10_down_150 : decode cX10_down 150 = .ok (.getfield 37, 3) := by decide +kernel
theorem dX10_down_153 : decode cX10_down 153 = .ok (.bipush 116, 2) := by decide +kernel
theorem dX10_down_155 : decode cX10_down 155 = .ok (.iload 6, 2) := by decide +kernel
theorem dX10_down_157 : decode cX10_down 157 = .ok (.iadd, 1) := by decide +kernel
theorem dX10_down_158 : decode cX10_down 158 = .ok (.iaload, 1) := by decide +kernel
theorem dX10_down_159 : decode cX10_down 159 = .ok (.istore 5, 2) := by decide +kernel
theorem dX10_down_161 : decode cX10_down 161 = .ok (.aload_n 0, 1) := by decide +kernel
theorem dX10_down_162 : decode cX10_down 162 = .ok (.dup, 1) := by decide +kernel
theorem dX10_down_163 : decode cX10_down 163 = .ok (.getfield 346, 3) := by decide +kernel
theorem dX10_down_166 : decode cX10_down 166 = .ok (.iconst 1, 1) := by decide +kernel
theorem dX10_down_167 : decode cX10_down 167 = .ok (.iadd, 1) := by decide +kernel
theorem dX10_down_168 : decode cX10_down 168 = .ok (.putfield 346, 3) := by decide +kernel
theorem dX10_down_171 : decode cX10_down 171 = .ok (.iload 4, 2) := by decide +kernel
theorem dX10_down_173 : decode cX10_down 173 = .ok (.aload_n 0, 1) := by decide +kernel
theorem dX10_down_174 : decode cX10_down 174 = .ok (.getfield 37, 3) := by decide +kernel
theorem dX10_down_177 : decode cX10_down 177 = .ok (.bipush 44, 2) := by decide +kernel
theorem dX10_down_179 : decode cX10_down 179 = .ok (.iload 6, 2) := by decide +kernel
theorem dX10_down_181 : decode cX10_down 181 = .ok (.iadd, 1) := by decide +kernel
theorem dX10_down_182 : decode cX10_down 182 = .ok (.iaload, 1) := by decide +kernel
theorem dX10_down_183 : decode cX10_down 183 = .ok (.sipush 3000, 3) := by decide +kernel
theorem dX10_down_186 : decode cX10_down 186 = .ok (.imul, 1) := by decide +kernel
theorem dX10_down_187 : decode cX10_down 187 = .ok (.iload_n 3, 1) := by decide +kernel
theorem dX10_down_188 : decode cX10_down 188 = .ok (.idiv, 1) := by decide +kernel
theorem dX10_down_189 : decode cX10_down 189 = .ok (.iadd, 1) := by decide +kernel
theorem dX10_down_190 : decode cX10_down 190 = .ok (.istore 4, 2) := by decide +kernel
theorem dX10_down_192 : decode cX10_down 192 = .ok (.iinc 6 1, 3) := by decide +kernel
theorem dX10_down_195 : decode cX10_down 195 = .ok (.goto (-157), 3) := by decide +kernel
theorem dX10_down_198 : decode cX10_down 198 = .ok (.iload 4, 2) := by decide +kernel
theorem dX10_down_200 : decode cX10_down 200 = .ok (.ireturn, 1) := by decide +kernel
theorem dX10_total_0 : decode cX10_total 0 = .ok (.aload_n 0, 1) := by decide +kernel
theorem dX10_total_1 : decode cX10_total 1 = .ok (.invokevirtual 340, 3) := by decide +kernel
theorem dX10_total_4 : decode cX10_total 4 = .ok (.aload_n 0, 1) := by decide +kernel
theorem dX10_total_5 : decode cX10_total 5 = .ok (.aload_n 0, 1) := by decide +kernel
theorem dX10_total_6 : decode cX10_total 6 = .ok (.getfield 337, 3) := by decide +kernel
theorem dX10_total_9 : decode cX10_total 9 = .ok (.aload_n 0, 1) := by decide +kernel
theorem dX10_total_10 : decode cX10_total 10 = .ok (.invokevirtual 343, 3) := by decide +kernel
theorem dX10_total_13 : decode cX10_total 13 = .ok (.invokevirtual 365, 3) := by decide +kernel
theorem dX10_total_16 : decode cX10_total 16 = .ok (.istore_n 1, 1) := by decide +kernel
theorem dX10_total_17 : decode cX10_total 17 = .ok (.iload_n 1, 1) := by decide +kernel
theorem dX10_total_18 : decode cX10_total 18 = .ok (.ifCond .ge 7, 3) := by decide +kernel
theorem dX10_total_21 : decode cX10_total 21 = .ok (.iconst (-1), 1) := by decide +kernel
theorem dX10_total_22 : decode cX10_total 22 = .ok (.goto 9, 3) := by decide +kernel
theorem dX10_total_25 : decode cX10_total 25 = .ok (.aload_n 0, 1) := by decide +kernel
theorem dX10_total_26 : decode cX10_total 26 = .ok (.getfield 314, 3) := by decide +kernel
theorem dX10_total_29 : decode cX10_total 29 = .ok (.iload_n 1, 1) := by decide +kernel
theorem dX10_total_30 : decode cX10_total 30 = .ok (.iadd, 1) := by decide +kernel
theorem dX10_total_31 : decode cX10_total 31 = .ok (.ireturn, 1) := by decide +kernel
theorem dX10_run_0 : decode cX10_run 0 = .ok (.aload_n 0, 1) := by decide +kernel
theorem dX10_run_1 : decode cX10_run 1 = .ok (.iconst 0, 1) := by decide +kernel
theorem dX10_run_2 : decode cX10_run 2 = .ok (.putfield 1, 3) := by decide +kernel
theorem dX10_run_5 : decode cX10_run 5 = .ok (.aload_n 0, 1) := by decide +kernel
theorem dX10_run_6 : decode cX10_run 6 = .ok (.invokevirtual 281, 3) := by decide +kernel
theorem dX10_run_9 : decode cX10_run 9 = .ok (.ifCond .ne 5, 3) := by decide +kernel
theorem dX10_run_12 : decode cX10_run 12 = .ok (.iconst (-1), 1) := by decide +kernel
theorem dX10_run_13 : decode cX10_run 13 = .ok (.ireturn, 1) := by decide +kernel
theorem dX10_run_14 : decode cX10_run 14 = .ok (.aload_n 0, 1) := by decide +kernel
theorem dX10_run_15 : decode cX10_run 15 = .ok (.invokevirtual 368, 3) := by decide +kernel
theorem dX10_run_18 : decode cX10_run 18 = .ok (.istore_n 2, 1) := by decide +kernel
theorem dX10_run_19 : decode cX10_run 19 = .ok (.iload_n 1, 1) := by decide +kernel
theorem dX10_run_20 : decode cX10_run 20 = .ok (.tableswitch 49 0 3 #[32, 34, 39, 44], 32) := by decide +kernel
theorem dX10_run_52 : decode cX10_run 52 = .ok (.iload_n 2, 1) := by decide +kernel
theorem dX10_run_53 : decode cX10_run 53 = .ok (.ireturn, 1) := by decide +kernel
theorem dX10_run_54 : decode cX10_run 54 = .ok (.aload_n 0, 1) := by decide +kernel
theorem dX10_run_55 : decode cX10_run 55 = .ok (.getfield 352, 3) := by decide +kernel
theorem dX10_run_58 : decode cX10_run 58 = .ok (.ireturn, 1) := by decide +kernel
theorem dX10_run_59 : decode cX10_run 59 = .ok (.aload_n 0, 1) := by decide +kernel
theorem dX10_run_60 : decode cX10_run 60 = .ok (.getfield 346, 3) := by decide +kernel
theorem dX10_run_63 : decode cX10_run 63 = .ok (.ireturn, 1) := by decide +kernel
theorem dX10_run_64 : decode cX10_run 64 = .ok (.aload_n 0, 1) := by decide +kernel
theorem dX10_run_65 : decode cX10_run 65 = .ok (.getfield 349, 3) := by decide +kernel
theorem dX10_run_68 : decode cX10_run 68 = .ok (.ireturn, 1) := by decide +kernel
theorem dX10_run_69 : decode cX10_run 69 = .ok (.iconst (-1), 1) := by decide +kernel
theorem dX10_run_70 : decode cX10_run 70 = .ok (.ireturn, 1) := by decide +kernel
theorem dX10_behind_0 : decode cX10_behind 0 = .ok (.aload_n 0, 1) := by decide +kernel
theorem dX10_behind_1 : decode cX10_behind 1 = .ok (.iconst 0, 1) := by decide +kernel
theorem dX10_behind_2 : decode cX10_behind 2 = .ok (.putfield 1, 3) := by decide +kernel
theorem dX10_behind_5 : decode cX10_behind 5 = .ok (.aload_n 0, 1) := by decide +kernel
theorem dX10_behind_6 : decode cX10_behind 6 = .ok (.invokevirtual 281, 3) := by decide +kernel
theorem dX10_behind_9 : decode cX10_behind 9 = .ok (.ifCond .ne 5, 3) := by decide +kernel
theorem dX10_behind_12 : decode cX10_behind 12 = .ok (.iconst (-1), 1) := by decide +kernel
theorem dX10_behind_13 : decode cX10_behind 13 = .ok (.ireturn, 1) := by decide +kernel
theorem dX10_behind_14 : decode cX10_behind 14 = .ok (.aload_n 0, 1) := by decide +kernel
theorem dX10_behind_15 : decode cX10_behind 15 = .ok (.invokevirtual 368, 3) := by decide +kernel
theorem dX10_behind_18 : decode cX10_behind 18 = .ok (.pop, 1) := by decide +kernel
theorem dX10_behind_19 : decode cX10_behind 19 = .ok (.iload_n 1, 1) := by decide +kernel
theorem dX10_behind_20 : decode cX10_behind 20 = .ok (.iconst 0, 1) := by decide +kernel
theorem dX10_behind_21 : decode cX10_behind 21 = .ok (.aload_n 0, 1) := by decide +kernel
theorem dX10_behind_22 : decode cX10_behind 22 = .ok (.getfield 346, 3) := by decide +kernel
theorem dX10_behind_25 : decode cX10_behind 25 = .ok (.iconst 1, 1) := by decide +kernel
theorem dX10_behind_26 : decode cX10_behind 26 = .ok (.isub, 1) := by decide +kernel
theorem dX10_behind_27 : decode cX10_behind 27 = .ok (.invokestatic 211, 3) := by decide +kernel
theorem dX10_behind_30 : decode cX10_behind 30 = .ok (.ifCond .eq 12, 3) := by decide +kernel
theorem dX10_behind_33 : decode cX10_behind 33 = .ok (.aload_n 0, 1) := by decide +kernel
theorem dX10_behind_34 : decode cX10_behind 34 = .ok (.getfield 63, 3) := by decide +kernel
theorem dX10_behind_37 : decode cX10_behind 37 = .ok (.iload_n 1, 1) := by decide +kernel
theorem dX10_behind_38 : decode cX10_behind 38 = .ok (.iaload, 1) := by decide +kernel
theorem dX10_behind_39 : decode cX10_behind 39 = .ok (.goto 4, 3) := by decide +kernel
theorem dX10_behind_42 : decode cX10_behind 42 = .ok (.iconst (-1), 1) := by decide +kernel
theorem dX10_behind_43 : decode cX10_behind 43 = .ok (.ireturn, 1) := by decide +kernel
theorem dX10_keeps_0 : decode cX10_keeps 0 = .ok (.aload_n 0, 1) := by decide +kernel
theorem dX10_keeps_1 : decode cX10_keeps 1 = .ok (.getfield 263, 3) := by decide +kernel
theorem dX10_keeps_4 : decode cX10_keeps 4 = .ok (.bipush 8, 2) := by decide +kernel
theorem dX10_keeps_6 : decode cX10_keeps 6 = .ok (.if_icmp .ne 39, 3) := by decide +kernel
theorem dX10_keeps_9 : decode cX10_keeps 9 = .ok (.iconst 0, 1) := by decide +kernel
theorem dX10_keeps_10 : decode cX10_keeps 10 = .ok (.istore_n 1, 1) := by decide +kernel
theorem dX10_keeps_11 : decode cX10_keeps 11 = .ok (.iload_n 1, 1) := by decide +kernel
theorem dX10_keeps_12 : decode cX10_keeps 12 = .ok (.sipush 168, 3) := by decide +kernel
theorem dX10_keeps_15 : decode cX10_keeps 15 = .ok (.if_icmp .ge 24, 3) := by decide +kernel
theorem dX10_keeps_18 : decode cX10_keeps 18 = .ok (.aload_n 0, 1) := by decide +kernel
theorem dX10_keeps_19 : decode cX10_keeps 19 = .ok (.getfield 69, 3) := by decide +kernel
theorem dX10_keeps_22 : decode cX10_keeps 22 = .ok (.iload_n 1, 1) := by decide +kernel
theorem dX10_keeps_23 : decode cX10_keeps 23 = .ok (.aload_n 0, 1) := by decide +kernel
theorem dX10_keeps_24 : decode cX10_keeps 24 = .ok (.getfield 69, 3) := by decide +kernel
theorem dX10_keeps_27 : decode cX10_keeps 27 = .ok (.iload_n 1, 1) := by decide +kernel
theorem dX10_keeps_28 : decode cX10_keeps 28 = .ok (.bipush 24, 2) := by decide +kernel
theorem dX10_keeps_30 : decode cX10_keeps 30 = .ok (.iadd, 1) := by decide +kernel
theorem dX10_keeps_31 : decode cX10_keeps 31 = .ok (.iaload, 1) := by decide +kernel
theorem dX10_keeps_32 : decode cX10_keeps 32 = .ok (.iastore, 1) := by decide +kernel
theorem dX10_keeps_33 : decode cX10_keeps 33 = .ok (.iinc 1 1, 3) := by decide +kernel
theorem dX10_keeps_36 : decode cX10_keeps 36 = .ok (.goto (-25), 3) := by decide +kernel
theorem dX10_keeps_39 : decode cX10_keeps 39 = .ok (.aload_n 0, 1) := by decide +kernel
theorem dX10_keeps_40 : decode cX10_keeps 40 = .ok (.bipush 7, 2) := by decide +kernel
theorem dX10_keeps_42 : decode cX10_keeps 42 = .ok (.putfield 263, 3) := by decide +kernel
theorem dX10_keeps_45 : decode cX10_keeps 45 = .ok (.iconst 0, 1) := by decide +kernel
theorem dX10_keeps_46 : decode cX10_keeps 46 = .ok (.istore_n 1, 1) := by decide +kernel
theorem dX10_keeps_47 : decode cX10_keeps 47 = .ok (.iload_n 1, 1) := by decide +kernel
theorem dX10_keeps_48 : decode cX10_keeps 48 = .ok (.bipush 24, 2) := by decide +kernel
theorem dX10_keeps_50 : decode cX10_keeps 50 = .ok (.if_icmp .ge 32, 3) := by decide +kernel
theorem dX10_keeps_53 : decode cX10_keeps 53 = .ok (.aload_n 0, 1) := by decide +kernel
theorem dX10_keeps_54 : decode cX10_keeps 54 = .ok (.getfield 69, 3) := by decide +kernel
theorem dX10_keeps_57 : decode cX10_keeps 57 = .ok (.bipush 24, 2) := by decide +kernel
theorem dX10_keeps_59 : decode cX10_keeps 59 = .ok (.aload_n 0, 1) := by decide +kernel
theorem dX10_keeps_60 : decode cX10_keeps 60 = .ok (.getfield 263, 3) := by decide +kernel
theorem dX10_keeps_63 : decode cX10_keeps 63 = .ok (.imul, 1) := by decide +kernel
theorem dX10_keeps_64 : decode cX10_keeps 64 = .ok (.iload_n 1, 1) := by decide +kernel
theorem dX10_keeps_65 : decode cX10_keeps 65 = .ok (.iadd, 1) := by decide +kernel
theorem dX10_keeps_66 : decode cX10_keeps 66 = .ok (.aload_n 0, 1) := by decide +kernel
theorem dX10_keeps_67 : decode cX10_keeps 67 = .ok (.getfield 37, 3) := by decide +kernel
theorem dX10_keeps_70 : decode cX10_keeps 70 = .ok (.bipush 104, 2) := by decide +kernel
theorem dX10_keeps_72 : decode cX10_keeps 72 = .ok (.iload_n 1, 1) := by decide +kernel
theorem dX10_keeps_73 : decode cX10_keeps 73 = .ok (.iadd, 1) := by decide +kernel
theorem dX10_keeps_74 : decode cX10_keeps 74 = .ok (.iaload, 1) := by decide +kernel
theorem dX10_keeps_75 : decode cX10_keeps 75 = .ok (.iastore, 1) := by decide +kernel
theorem dX10_keeps_76 : decode cX10_keeps 76 = .ok (.iinc 1 1, 3) := by decide +kernel
theorem dX10_keeps_79 : decode cX10_keeps 79 = .ok (.goto (-32), 3) := by decide +kernel
theorem dX10_keeps_82 : decode cX10_keeps 82 = .ok (.aload_n 0, 1) := by decide +kernel
theorem dX10_keeps_83 : decode cX10_keeps 83 = .ok (.dup, 1) := by decide +kernel
theorem dX10_keeps_84 : decode cX10_keeps 84 = .ok (.getfield 263, 3) := by decide +kernel
theorem dX10_keeps_87 : decode cX10_keeps 87 = .ok (.iconst 1, 1) := by decide +kernel
theorem dX10_keeps_88 : decode cX10_keeps 88 = .ok (.iadd, 1) := by decide +kernel
theorem dX10_keeps_89 : decode cX10_keeps 89 = .ok (.putfield 263, 3) := by decide +kernel
theorem dX10_keeps_92 : decode cX10_keeps 92 = .ok (.return_, 1) := by decide +kernel
theorem dX10_undo_0 : decode cX10_undo 0 = .ok (.aload_n 0, 1) := by decide +kernel
theorem dX10_undo_1 : decode cX10_undo 1 = .ok (.iconst 0, 1) := by decide +kernel
theorem dX10_undo_2 : decode cX10_undo 2 = .ok (.putfield 1, 3) := by decide +kernel
theorem dX10_undo_5 : decode cX10_undo 5 = .ok (.aload_n 0, 1) := by decide +kernel
theorem dX10_undo_6 : decode cX10_undo 6 = .ok (.getfield 263, 3) := by decide +kernel
theorem dX10_undo_9 : decode cX10_undo 9 = .ok (.ifCond .ne 5, 3) := by decide +kernel
theorem dX10_undo_12 : decode cX10_undo 12 = .ok (.iconst (-1), 1) := by decide +kernel
theorem dX10_undo_13 : decode cX10_undo 13 = .ok (.ireturn, 1) := by decide +kernel
theorem dX10_undo_14 : decode cX10_undo 14 = .ok (.aload_n 0, 1) := by decide +kernel
theorem dX10_undo_15 : decode cX10_undo 15 = .ok (.dup, 1) := by decide +kernel
theorem dX10_undo_16 : decode cX10_undo 16 = .ok (.getfield 263, 3) := by decide +kernel
theorem dX10_undo_19 : decode cX10_undo 19 = .ok (.iconst 1, 1) := by decide +kernel
theorem dX10_undo_20 : decode cX10_undo 20 = .ok (.isub, 1) := by decide +kernel
theorem dX10_undo_21 : decode cX10_undo 21 = .ok (.putfield 263, 3) := by decide +kernel
theorem dX10_undo_24 : decode cX10_undo 24 = .ok (.iconst 0, 1) := by decide +kernel
theorem dX10_undo_25 : decode cX10_undo 25 = .ok (.istore_n 1, 1) := by decide +kernel
theorem dX10_undo_26 : decode cX10_undo 26 = .ok (.iload_n 1, 1) := by decide +kernel
theorem dX10_undo_27 : decode cX10_undo 27 = .ok (.bipush 24, 2) := by decide +kernel
theorem dX10_undo_29 : decode cX10_undo 29 = .ok (.if_icmp .ge 32, 3) := by decide +kernel
theorem dX10_undo_32 : decode cX10_undo 32 = .ok (.aload_n 0, 1) := by decide +kernel
theorem dX10_undo_33 : decode cX10_undo 33 = .ok (.getfield 37, 3) := by decide +kernel
theorem dX10_undo_36 : decode cX10_undo 36 = .ok (.bipush 104, 2) := by decide +kernel
theorem dX10_undo_38 : decode cX10_undo 38 = .ok (.iload_n 1, 1) := by decide +kernel
theorem dX10_undo_39 : decode cX10_undo 39 = .ok (.iadd, 1) := by decide +kernel
theorem dX10_undo_40 : decode cX10_undo 40 = .ok (.aload_n 0, 1) := by decide +kernel
theorem dX10_undo_41 : decode cX10_undo 41 = .ok (.getfield 69, 3) := by decide +kernel
theorem dX10_undo_44 : decode cX10_undo 44 = .ok (.bipush 24, 2) := by decide +kernel
theorem dX10_undo_46 : decode cX10_undo 46 = .ok (.aload_n 0, 1) := by decide +kernel
theorem dX10_undo_47 : decode cX10_undo 47 = .ok (.getfield 263, 3) := by decide +kernel
theorem dX10_undo_50 : decode cX10_undo 50 = .ok (.imul, 1) := by decide +kernel
theorem dX10_undo_51 : decode cX10_undo 51 = .ok (.iload_n 1, 1) := by decide +kernel
theorem dX10_undo_52 : decode cX10_undo 52 = .ok (.iadd, 1) := by decide +kernel
theorem dX10_undo_53 : decode cX10_undo 53 = .ok (.iaload, 1) := by decide +kernel
theorem dX10_undo_54 : decode cX10_undo 54 = .ok (.iastore, 1) := by decide +kernel
theorem dX10_undo_55 : decode cX10_undo 55 = .ok (.iinc 1 1, 3) := by decide +kernel
theorem dX10_undo_58 : decode cX10_undo 58 = .ok (.goto (-32), 3) := by decide +kernel
theorem dX10_undo_61 : decode cX10_undo 61 = .ok (.aload_n 0, 1) := by decide +kernel
theorem dX10_undo_62 : decode cX10_undo 62 = .ok (.getfield 263, 3) := by decide +kernel
theorem dX10_undo_65 : decode cX10_undo 65 = .ok (.ireturn, 1) := by decide +kernel
theorem dX10_tries_0 : decode cX10_tries 0 = .ok (.iconst 0, 1) := by decide +kernel
theorem dX10_tries_1 : decode cX10_tries 1 = .ok (.istore_n 1, 1) := by decide +kernel
theorem dX10_tries_2 : decode cX10_tries 2 = .ok (.iload_n 1, 1) := by decide +kernel
theorem dX10_tries_3 : decode cX10_tries 3 = .ok (.bipush 24, 2) := by decide +kernel
theorem dX10_tries_5 : decode cX10_tries 5 = .ok (.if_icmp .ge 24, 3) := by decide +kernel
theorem dX10_tries_8 : decode cX10_tries 8 = .ok (.aload_n 0, 1) := by decide +kernel
theorem dX10_tries_9 : decode cX10_tries 9 = .ok (.getfield 72, 3) := by decide +kernel
theorem dX10_tries_12 : decode cX10_tries 12 = .ok (.iload_n 1, 1) := by decide +kernel
theorem dX10_tries_13 : decode cX10_tries 13 = .ok (.aload_n 0, 1) := by decide +kernel
theorem dX10_tries_14 : decode cX10_tries 14 = .ok (.getfield 37, 3) := by decide +kernel
theorem dX10_tries_17 : decode cX10_tries 17 = .ok (.bipush 104, 2) := by decide +kernel
theorem dX10_tries_19 : decode cX10_tries 19 = .ok (.iload_n 1, 1) := by decide +kernel
theorem dX10_tries_20 : decode cX10_tries 20 = .ok (.iadd, 1) := by decide +kernel
theorem dX10_tries_21 : decode cX10_tries 21 = .ok (.iaload, 1) := by decide +kernel
theorem dX10_tries_22 : decode cX10_tries 22 = .ok (.iastore, 1) := by decide +kernel
theorem dX10_tries_23 : decode cX10_tries 23 = .ok (.iinc 1 1, 3) := by decide +kernel
theorem dX10_tries_26 : decode cX10_tries 26 = .ok (.goto (-24), 3) := by decide +kernel
theorem dX10_tries_29 : decode cX10_tries 29 = .ok (.return_, 1) := by decide +kernel
theorem dX10_back_0 : decode cX10_back 0 = .ok (.iconst 0, 1) := by decide +kernel
theorem dX10_back_1 : decode cX10_back 1 = .ok (.istore_n 1, 1) := by decide +kernel
theorem dX10_back_2 : decode cX10_back 2 = .ok (.iload_n 1, 1) := by decide +kernel
theorem dX10_back_3 : decode cX10_back 3 = .ok (.bipush 24, 2) := by decide +kernel
theorem dX10_back_5 : decode cX10_back 5 = .ok (.if_icmp .ge 24, 3) := by decide +kernel
theorem dX10_back_8 : decode cX10_back 8 = .ok (.aload_n 0, 1) := by decide +kernel
theorem dX10_back_9 : decode cX10_back 9 = .ok (.getfield 37, 3) := by decide +kernel
theorem dX10_back_12 : decode cX10_back 12 = .ok (.bipush 104, 2) := by decide +kernel
theorem dX10_back_14 : decode cX10_back 14 = .ok (.iload_n 1, 1) := by decide +kernel
theorem dX10_back_15 : decode cX10_back 15 = .ok (.iadd, 1) := by decide +kernel
theorem dX10_back_16 : decode cX10_back 16 = .ok (.aload_n 0, 1) := by decide +kernel
theorem dX10_back_17 : decode cX10_back 17 = .ok (.getfield 72, 3) := by decide +kernel
theorem dX10_back_20 : decode cX10_back 20 = .ok (.iload_n 1, 1) := by decide +kernel
theorem dX10_back_21 : decode cX10_back 21 = .ok (.iaload, 1) := by decide +kernel
theorem dX10_back_22 : decode cX10_back 22 = .ok (.iastore, 1) := by decide +kernel
theorem dX10_back_23 : decode cX10_back 23 = .ok (.iinc 1 1, 3) := by decide +kernel
theorem dX10_back_26 : decode cX10_back 26 = .ok (.goto (-24), 3) := by decide +kernel
theorem dX10_back_29 : decode cX10_back 29 = .ok (.return_, 1) := by decide +kernel
theorem dX10_becomes_0 : decode cX10_becomes 0 = .ok (.aload_n 0, 1) := by decide +kernel
theorem dX10_becomes_1 : decode cX10_becomes 1 = .ok (.getfield 37, 3) := by decide +kernel
theorem dX10_becomes_4 : decode cX10_becomes 4 = .ok (.iload_n 1, 1) := by decide +kernel
theorem dX10_becomes_5 : decode cX10_becomes 5 = .ok (.iaload, 1) := by decide +kernel
theorem dX10_becomes_6 : decode cX10_becomes 6 = .ok (.iload_n 2, 1) := by decide +kernel
theorem dX10_becomes_7 : decode cX10_becomes 7 = .ok (.if_icmp .ne 5, 3) := by decide +kernel
theorem dX10_becomes_10 : decode cX10_becomes 10 = .ok (.iconst 0, 1) := by decide +kernel
theorem dX10_becomes_11 : decode cX10_becomes 11 = .ok (.ireturn, 1) := by decide +kernel
theorem dX10_becomes_12 : decode cX10_becomes 12 = .ok (.aload_n 0, 1) := by decide +kernel
theorem dX10_becomes_13 : decode cX10_becomes 13 = .ok (.invokevirtual 371, 3) := by decide +kernel
theorem dX10_becomes_16 : decode cX10_becomes 16 = .ok (.aload_n 0, 1) := by decide +kernel
theorem dX10_becomes_17 : decode cX10_becomes 17 = .ok (.getfield 37, 3) := by decide +kernel
theorem dX10_becomes_20 : decode cX10_becomes 20 = .ok (.iload_n 1, 1) := by decide +kernel
theorem dX10_becomes_21 : decode cX10_becomes 21 = .ok (.iload_n 2, 1) := by decide +kernel
theorem dX10_becomes_22 : decode cX10_becomes 22 = .ok (.iastore, 1) := by decide +kernel
theorem dX10_becomes_23 : decode cX10_becomes 23 = .ok (.iconst 1, 1) := by decide +kernel
theorem dX10_becomes_24 : decode cX10_becomes 24 = .ok (.ireturn, 1) := by decide +kernel
theorem dX10_jump_0 : decode cX10_jump 0 = .ok (.aload_n 0, 1) := by decide +kernel
theorem dX10_jump_1 : decode cX10_jump 1 = .ok (.iconst 0, 1) := by decide +kernel
theorem dX10_jump_2 : decode cX10_jump 2 = .ok (.putfield 1, 3) := by decide +kernel
theorem dX10_jump_5 : decode cX10_jump 5 = .ok (.aload_n 0, 1) := by decide +kernel
theorem dX10_jump_6 : decode cX10_jump 6 = .ok (.invokevirtual 281, 3) := by decide +kernel
theorem dX10_jump_9 : decode cX10_jump 9 = .ok (.ifCond .eq 44, 3) := by decide +kernel
theorem dX10_jump_12 : decode cX10_jump 12 = .ok (.iload_n 1, 1) := by decide +kernel
theorem dX10_jump_13 : decode cX10_jump 13 = .ok (.iconst 0, 1) := by decide +kernel
theorem dX10_jump_14 : decode cX10_jump 14 = .ok (.iconst 3, 1) := by decide +kernel
theorem dX10_jump_15 : decode cX10_jump 15 = .ok (.invokestatic 211, 3) := by decide +kernel
theorem dX10_jump_18 : decode cX10_jump 18 = .ok (.ifCond .eq 35, 3) := by decide +kernel
theorem dX10_jump_21 : decode cX10_jump 21 = .ok (.iload_n 2, 1) := by decide +kernel
theorem dX10_jump_22 : decode cX10_jump 22 = .ok (.iconst 0, 1) := by decide +kernel
theorem dX10_jump_23 : decode cX10_jump 23 = .ok (.aload_n 0, 1) := by decide +kernel
theorem dX10_jump_24 : decode cX10_jump 24 = .ok (.getfield 37, 3) := by decide +kernel
theorem dX10_jump_27 : decode cX10_jump 27 = .ok (.iconst 0, 1) := by decide +kernel
theorem dX10_jump_28 : decode cX10_jump 28 = .ok (.iaload, 1) := by decide +kernel
theorem dX10_jump_29 : decode cX10_jump 29 = .ok (.iconst 1, 1) := by decide +kernel
theorem dX10_jump_30 : decode cX10_jump 30 = .ok (.isub, 1) := by decide +kernel
theorem dX10_jump_31 : decode cX10_jump 31 = .ok (.invokestatic 211, 3) := by decide +kernel
theorem dX10_jump_34 : decode cX10_jump 34 = .ok (.ifCond .eq 19, 3) := by decide +kernel
theorem dX10_jump_37 : decode cX10_jump 37 = .ok (.aload_n 0, 1) := by decide +kernel
theorem dX10_jump_38 : decode cX10_jump 38 = .ok (.bipush 109, 2) := by decide +kernel
theorem dX10_jump_40 : decode cX10_jump 40 = .ok (.iload_n 1, 1) := by decide +kernel
theorem dX10_jump_41 : decode cX10_jump 41 = .ok (.iadd, 1) := by decide +kernel
theorem dX10_jump_42 : decode cX10_jump 42 = .ok (.iload_n 2, 1) := by decide +kernel
theorem dX10_jump_43 : decode cX10_jump 43 = .ok (.invokevirtual 374, 3) := by decide +kernel
theorem dX10_jump_46 : decode cX10_jump 46 = .ok (.ifCond .eq 7, 3) := by decide +kernel
theorem dX10_jump_49 : decode cX10_jump 49 = .ok (.iconst 1, 1) := by decide +kernel
theorem dX10_jump_50 : decode cX10_jump 50 = .ok (.goto 4, 3) := by decide +kernel
theorem dX10_jump_53 : decode cX10_jump 53 = .ok (.iconst 0, 1) := by decide +kernel
theorem dX10_jump_54 : decode cX10_jump 54 = .ok (.ireturn, 1) := by decide +kernel
theorem dX10_high_0 : decode cX10_high 0 = .ok (.aload_n 0, 1) := by decide +kernel
theorem dX10_high_1 : decode cX10_high 1 = .ok (.iconst 0, 1) := by decide +kernel
theorem dX10_high_2 : decode cX10_high 2 = .ok (.putfield 1, 3) := by decide +kernel
theorem dX10_high_5 : decode cX10_high 5 = .ok (.aload_n 0, 1) := by decide +kernel
theorem dX10_high_6 : decode cX10_high 6 = .ok (.iload_n 1, 1) := by decide +kernel
theorem dX10_high_7 : decode cX10_high 7 = .ok (.invokevirtual 292, 3) := by decide +kernel
theorem dX10_high_10 : decode cX10_high 10 = .ok (.ifCond .eq 29, 3) := by decide +kernel
theorem dX10_high_13 : decode cX10_high 13 = .ok (.iload_n 2, 1) := by decide +kernel
theorem dX10_high_14 : decode cX10_high 14 = .ok (.iconst 0, 1) := by decide +kernel
theorem dX10_high_15 : decode cX10_high 15 = .ok (.bipush 9, 2) := by decide +kernel
theorem dX10_high_17 : decode cX10_high 17 = .ok (.invokestatic 211, 3) := by decide +kernel
theorem dX10_high_20 : decode cX10_high 20 = .ok (.ifCond .eq 19, 3) := by decide +kernel
theorem dX10_high_23 : decode cX10_high 23 = .ok (.aload_n 0, 1) := by decide +kernel
theorem dX10_high_24 : decode cX10_high 24 = .ok (.bipush 116, 2) := by decide +kernel
theorem dX10_high_26 : decode cX10_high 26 = .ok (.iload_n 1, 1) := by decide +kernel
theorem dX10_high_27 : decode cX10_high 27 = .ok (.iadd, 1) := by decide +kernel
theorem dX10_high_28 : decode cX10_high 28 = .ok (.iload_n 2, 1) := by decide +kernel
theorem dX10_high_29 : decode cX10_high 29 = .ok (.invokevirtual 374, 3) := by decide +kernel
theorem dX10_high_32 : decode cX10_high 32 = .ok (.ifCond .eq 7, 3) := by decide +kernel
theorem dX10_high_35 : decode cX10_high 35 = .ok (.iconst 1, 1) := by decide +kernel
theorem dX10_high_36 : decode cX10_high 36 = .ok (.goto 4, 3) := by decide +kernel
theorem dX10_high_39 : decode cX10_high 39 = .ok (.iconst 0, 1) := by decide +kernel
theorem dX10_high_40 : decode cX10_high 40 = .ok (.ireturn, 1) := by decide +kernel
theorem dX10_set_0 : decode cX10_set 0 = .ok (.aload_n 0, 1) := by decide +kernel
theorem dX10_set_1 : decode cX10_set 1 = .ok (.iconst 0, 1) := by decide +kernel
theorem dX10_set_2 : decode cX10_set 2 = .ok (.putfield 1, 3) := by decide +kernel
theorem dX10_set_5 : decode cX10_set 5 = .ok (.iload_n 1, 1) := by decide +kernel
theorem dX10_set_6 : decode cX10_set 6 = .ok (.ifCond .ne 29, 3) := by decide +kernel
theorem dX10_set_9 : decode cX10_set 9 = .ok (.iload_n 2, 1) := by decide +kernel
theorem dX10_set_10 : decode cX10_set 10 = .ok (.iconst 0, 1) := by decide +kernel
theorem dX10_set_11 : decode cX10_set 11 = .ok (.bipush 99, 2) := by decide +kernel
theorem dX10_set_13 : decode cX10_set 13 = .ok (.invokestatic 211, 3) := by decide +kernel
theorem dX10_set_16 : decode cX10_set 16 = .ok (.ifCond .eq 17, 3) := by decide +kernel
theorem dX10_set_19 : decode cX10_set 19 = .ok (.aload_n 0, 1) := by decide +kernel
theorem dX10_set_20 : decode cX10_set 20 = .ok (.bipush 113, 2) := by decide +kernel
theorem dX10_set_22 : decode cX10_set 22 = .ok (.iload_n 2, 1) := by decide +kernel
theorem dX10_set_23 : decode cX10_set 23 = .ok (.invokevirtual 374, 3) := by decide +kernel
theorem dX10_set_26 : decode cX10_set 26 = .ok (.ifCond .eq 7, 3) := by decide +kernel
theorem dX10_set_29 : decode cX10_set 29 = .ok (.iconst 1, 1) := by decide +kernel
theorem dX10_set_30 : decode cX10_set 30 = .ok (.goto 4, 3) := by decide +kernel
theorem dX10_set_33 : decode cX10_set 33 = .ok (.iconst 0, 1) := by decide +kernel
theorem dX10_set_34 : decode cX10_set 34 = .ok (.ireturn, 1) := by decide +kernel
theorem dX10_set_35 : decode cX10_set 35 = .ok (.iload_n 1, 1) := by decide +kernel
theorem dX10_set_36 : decode cX10_set 36 = .ok (.iconst 1, 1) := by decide +kernel
theorem dX10_set_37 : decode cX10_set 37 = .ok (.if_icmp .ne 27, 3) := by decide +kernel
theorem dX10_set_40 : decode cX10_set 40 = .ok (.aload_n 0, 1) := by decide +kernel
theorem dX10_set_41 : decode cX10_set 41 = .ok (.iload_n 2, 1) := by decide +kernel
theorem dX10_set_42 : decode cX10_set 42 = .ok (.invokevirtual 298, 3) := by decide +kernel
theorem dX10_set_45 : decode cX10_set 45 = .ok (.ifCond .eq 17, 3) := by decide +kernel
theorem dX10_set_48 : decode cX10_set 48 = .ok (.aload_n 0, 1) := by decide +kernel
theorem dX10_set_49 : decode cX10_set 49 = .ok (.bipush 114, 2) := by decide +kernel
theorem dX10_set_51 : decode cX10_set 51 = .ok (.iload_n 2, 1) := by decide +kernel
theorem dX10_set_52 : decode cX10_set 52 = .ok (.invokevirtual 374, 3) := by decide +kernel
theorem dX10_set_55 : decode cX10_set 55 = .ok (.ifCond .eq 7, 3) := by decide +kernel
theorem dX10_set_58 : decode cX10_set 58 = .ok (.iconst 1, 1) := by decide +kernel
theorem dX10_set_59 : decode cX10_set 59 = .ok (.goto 4, 3) := by decide +kernel
theorem dX10_set_62 : decode cX10_set 62 = .ok (.iconst 0, 1) := by decide +kernel
theorem dX10_set_63 : decode cX10_set 63 = .ok (.ireturn, 1) := by decide +kernel
theorem dX10_set_64 : decode cX10_set 64 = .ok (.iload_n 1, 1) := by decide +kernel
theorem dX10_set_65 : decode cX10_set 65 = .ok (.iconst 2, 1) := by decide +kernel
theorem dX10_set_66 : decode cX10_set 66 = .ok (.if_icmp .ne 27, 3) := by decide +kernel
theorem dX10_set_69 : decode cX10_set 69 = .ok (.iload_n 2, 1) := by decide +kernel
theorem dX10_set_70 : decode cX10_set 70 = .ok (.iconst 1, 1) := by decide +kernel
theorem dX10_set_71 : decode cX10_set 71 = .ok (.bipush 60, 2) := by decide +kernel
theorem dX10_set_73 : decode cX10_set 73 = .ok (.invokestatic 211, 3) := by decide +kernel
theorem dX10_set_76 : decode cX10_set 76 = .ok (.ifCond .eq 17, 3) := by decide +kernel
theorem dX10_set_79 : decode cX10_set 79 = .ok (.aload_n 0, 1) := by decide +kernel
theorem dX10_set_80 : decode cX10_set 80 = .ok (.bipush 115, 2) := by decide +kernel
theorem dX10_set_82 : decode cX10_set 82 = .ok (.iload_n 2, 1) := by decide +kernel
theorem dX10_set_83 : decode cX10_set 83 = .ok (.invokevirtual 374, 3) := by decide +kernel
theorem dX10_set_86 : decode cX10_set 86 = .ok (.ifCond .eq 7, 3) := by decide +kernel
theorem dX10_set_89 : decode cX10_set 89 = .ok (.iconst 1, 1) := by decide +kernel
theorem dX10_set_90 : decode cX10_set 90 = .ok (.goto 4, 3) := by decide +kernel
theorem dX10_set_93 : decode cX10_set 93 = .ok (.iconst 0, 1) := by decide +kernel
theorem dX10_set_94 : decode cX10_set 94 = .ok (.ireturn, 1) := by decide +kernel
theorem dX10_swap_0 : decode cX10_swap 0 = .ok (.aload_n 0, 1) := by decide +kernel
theorem dX10_swap_1 : decode cX10_swap 1 = .ok (.iconst 0, 1) := by decide +kernel
theorem dX10_swap_2 : decode cX10_swap 2 = .ok (.putfield 1, 3) := by decide +kernel
theorem dX10_swap_5 : decode cX10_swap 5 = .ok (.aload_n 0, 1) := by decide +kernel
theorem dX10_swap_6 : decode cX10_swap 6 = .ok (.invokevirtual 281, 3) := by decide +kernel
theorem dX10_swap_9 : decode cX10_swap 9 = .ok (.ifCond .eq 26, 3) := by decide +kernel
theorem dX10_swap_12 : decode cX10_swap 12 = .ok (.iload_n 1, 1) := by decide +kernel
theorem dX10_swap_13 : decode cX10_swap 13 = .ok (.iconst 0, 1) := by decide +kernel
theorem dX10_swap_14 : decode cX10_swap 14 = .ok (.iconst 3, 1) := by decide +kernel
theorem dX10_swap_15 : decode cX10_swap 15 = .ok (.invokestatic 211, 3) := by decide +kernel
theorem dX10_swap_18 : decode cX10_swap 18 = .ok (.ifCond .eq 17, 3) := by decide +kernel
theorem dX10_swap_21 : decode cX10_swap 21 = .ok (.iload_n 2, 1) := by decide +kernel
theorem dX10_swap_22 : decode cX10_swap 22 = .ok (.iconst 0, 1) := by decide +kernel
theorem dX10_swap_23 : decode cX10_swap 23 = .ok (.iconst 3, 1) := by decide +kernel
theorem dX10_swap_24 : decode cX10_swap 24 = .ok (.invokestatic 211, 3) := by decide +kernel
theorem dX10_swap_27 : decode cX10_swap 27 = .ok (.ifCond .eq 8, 3) := by decide +kernel
theorem dX10_swap_30 : decode cX10_swap 30 = .ok (.iload_n 1, 1) := by decide +kernel
theorem dX10_swap_31 : decode cX10_swap 31 = .ok (.iload_n 2, 1) := by decide +kernel
theorem dX10_swap_32 : decode cX10_swap 32 = .ok (.if_icmp .ne 5, 3) := by decide +kernel
theorem dX10_swap_35 : decode cX10_swap 35 = .ok (.iconst 0, 1) := by decide +kernel
theorem dX10_swap_36 : decode cX10_swap 36 = .ok (.ireturn, 1) := by decide +kernel
theorem dX10_swap_37 : decode cX10_swap 37 = .ok (.aload_n 0, 1) := by decide +kernel
theorem dX10_swap_38 : decode cX10_swap 38 = .ok (.invokevirtual 371, 3) := by decide +kernel
theorem dX10_swap_41 : decode cX10_swap 41 = .ok (.aload_n 0, 1) := by decide +kernel
theorem dX10_swap_42 : decode cX10_swap 42 = .ok (.getfield 37, 3) := by decide +kernel
theorem dX10_swap_45 : decode cX10_swap 45 = .ok (.bipush 105, 2) := by decide +kernel
theorem dX10_swap_47 : decode cX10_swap 47 = .ok (.iload_n 1, 1) := by decide +kernel
theorem dX10_swap_48 : decode cX10_swap 48 = .ok (.iadd, 1) := by decide +kernel
theorem dX10_swap_49 : decode cX10_swap 49 = .ok (.iaload, 1) := by decide +kernel
theorem dX10_swap_50 : decode cX10_swap 50 = .ok (.istore_n 3, 1) := by decide +kernel
theorem dX10_swap_51 : decode cX10_swap 51 = .ok (.aload_n 0, 1) := by decide +kernel
theorem dX10_swap_52 : decode cX10_swap 52 = .ok (.getfield 37, 3) := by decide +kernel
theorem dX10_swap_55 : decode cX10_swap 55 = .ok (.bipush 109, 2) := by decide +kernel
theorem dX10_swap_57 : decode cX10_swap 57 = .ok (.iload_n 1, 1) := by decide +kernel
theorem dX10_swap_58 : decode cX10_swap 58 = .ok (.iadd, 1) := by decide +kernel
theorem dX10_swap_59 : decode cX10_swap 59 = .ok (.iaload, 1) := by decide +kernel
theorem dX10_swap_60 : decode cX10_swap 60 = .ok (.istore 4, 2) := by decide +kernel
theorem dX10_swap_62 : decode cX10_swap 62 = .ok (.aload_n 0, 1) := by decide +kernel
theorem dX10_swap_63 : decode cX10_swap 63 = .ok (.getfield 37, 3) := by decide +kernel
theorem dX10_swap_66 : decode cX10_swap 66 = .ok (.bipush 105, 2) := by decide +kernel
theorem dX10_swap_68 : decode cX10_swap 68 = .ok (.iload_n 1, 1) := by decide +kernel
theorem dX10_swap_69 : decode cX10_swap 69 = .ok (.iadd, 1) := by decide +kernel
theorem dX10_swap_70 : decode cX10_swap 70 = .ok (.aload_n 0, 1) := by decide +kernel
theorem dX10_swap_71 : decode cX10_swap 71 = .ok (.getfield 37, 3) := by decide +kernel
theorem dX10_swap_74 : decode cX10_swap 74 = .ok (.bipush 105, 2) := by decide +kernel
theorem dX10_swap_76 : decode cX10_swap 76 = .ok (.iload_n 2, 1) := by decide +kernel
theorem dX10_swap_77 : decode cX10_swap 77 = .ok (.iadd, 1) := by decide +kernel
theorem dX10_swap_78 : decode cX10_swap 78 = .ok (.iaload, 1) := by decide +kernel
theorem dX10_swap_79 : decode cX10_swap 79 = .ok (.iastore, 1) := by decide +kernel
theorem dX10_swap_80 : decode cX10_swap 80 = .ok (.aload_n 0, 1) := by decide +kernel
theorem dX10_swap_81 : decode cX10_swap 81 = .ok (.getfield 37, 3) := by decide +kernel
theorem dX10_swap_84 : decode cX10_swap 84 = .ok (.bipush 109, 2) := by decide +kernel
theorem dX10_swap_86 : decode cX10_swap 86 = .ok (.iload_n 1, 1) := by decide +kernel
theorem dX10_swap_87 : decode cX10_swap 87 = .ok (.iadd, 1) := by decide +kernel
theorem dX10_swap_88 : decode cX10_swap 88 = .ok (.aload_n 0, 1) := by decide +kernel
theorem dX10_swap_89 : decode cX10_swap 89 = .ok (.getfield 37, 3) := by decide +kernel
theorem dX10_swap_92 : decode cX10_swap 92 = .ok (.bipush 109, 2) := by decide +kernel
theorem dX10_swap_94 : decode cX10_swap 94 = .ok (.iload_n 2, 1) := by decide +kernel
theorem dX10_swap_95 : decode cX10_swap 95 = .ok (.iadd, 1) := by decide +kernel
theorem dX10_swap_96 : decode cX10_swap 96 = .ok (.iaload, 1) := by decide +kernel
theorem dX10_swap_97 : decode cX10_swap 97 = .ok (.iastore, 1) := by decide +kernel
theorem dX10_swap_98 : decode cX10_swap 98 = .ok (.aload_n 0, 1) := by decide +kernel
theorem dX10_swap_99 : decode cX10_swap 99 = .ok (.getfield 37, 3) := by decide +kernel
theorem dX10_swap_102 : decode cX10_swap 102 = .ok (.bipush 105, 2) := by decide +kernel
theorem dX10_swap_104 : decode cX10_swap 104 = .ok (.iload_n 2, 1) := by decide +kernel
theorem dX10_swap_105 : decode cX10_swap 105 = .ok (.iadd, 1) := by decide +kernel
theorem dX10_swap_106 : decode cX10_swap 106 = .ok (.iload_n 3, 1) := by decide +kernel
theorem dX10_swap_107 : decode cX10_swap 107 = .ok (.iastore, 1) := by decide +kernel
theorem dX10_swap_108 : decode cX10_swap 108 = .ok (.aload_n 0, 1) := by decide +kernel
theorem dX10_swap_109 : decode cX10_swap 109 = .ok (.getfield 37, 3) := by decide +kernel
theorem dX10_swap_112 : decode cX10_swap 112 = .ok (.bipush 109, 2) := by decide +kernel
theorem dX10_swap_114 : decode cX10_swap 114 = .ok (.iload_n 2, 1) := by decide +kernel
theorem dX10_swap_115 : decode cX10_swap 115 = .ok (.iadd, 1) := by decide +kernel
theorem dX10_swap_116 : decode cX10_swap 116 = .ok (.iload 4, 2) := by decide +kernel
theorem dX10_swap_118 : decode cX10_swap 118 = .ok (.iastore, 1) := by decide +kernel
theorem dX10_swap_119 : decode cX10_swap 119 = .ok (.iconst 1, 1) := by decide +kernel
theorem dX10_swap_120 : decode cX10_swap 120 = .ok (.ireturn, 1) := by decide +kernel
theorem dX10_slot_0 : decode cX10_slot 0 = .ok (.iload_n 0, 1) := by decide +kernel
theorem dX10_slot_1 : decode cX10_slot 1 = .ok (.bipush 16, 2) := by decide +kernel
theorem dX10_slot_3 : decode cX10_slot 3 = .ok (.imul, 1) := by decide +kernel
theorem dX10_slot_4 : decode cX10_slot 4 = .ok (.iload_n 1, 1) := by decide +kernel
theorem dX10_slot_5 : decode cX10_slot 5 = .ok (.iadd, 1) := by decide +kernel
theorem dX10_slot_6 : decode cX10_slot 6 = .ok (.iconst 2, 1) := by decide +kernel
theorem dX10_slot_7 : decode cX10_slot 7 = .ok (.imul, 1) := by decide +kernel
theorem dX10_slot_8 : decode cX10_slot 8 = .ok (.iload_n 2, 1) := by decide +kernel
theorem dX10_slot_9 : decode cX10_slot 9 = .ok (.iadd, 1) := by decide +kernel
theorem dX10_slot_10 : decode cX10_slot 10 = .ok (.sipush 241, 3) := by decide +kernel
theorem dX10_slot_13 : decode cX10_slot 13 = .ok (.imul, 1) := by decide +kernel
theorem dX10_slot_14 : decode cX10_slot 14 = .ok (.iload_n 3, 1) := by decide +kernel
theorem dX10_slot_15 : decode cX10_slot 15 = .ok (.iadd, 1) := by decide +kernel
theorem dX10_slot_16 : decode cX10_slot 16 = .ok (.bipush 10, 2) := by decide +kernel
theorem dX10_slot_18 : decode cX10_slot 18 = .ok (.isub, 1) := by decide +kernel
theorem dX10_slot_19 : decode cX10_slot 19 = .ok (.ireturn, 1) := by decide +kernel
theorem dX10_chooses_0 : decode cX10_chooses 0 = .ok (.aload_n 0, 1) := by decide +kernel
theorem dX10_chooses_1 : decode cX10_chooses 1 = .ok (.aload_n 0, 1) := by decide +kernel
theorem dX10_chooses_2 : decode cX10_chooses 2 = .ok (.iload_n 3, 1) := by decide +kernel
theorem dX10_chooses_3 : decode cX10_chooses 3 = .ok (.iload_n 1, 1) := by decide +kernel
theorem dX10_chooses_4 : decode cX10_chooses 4 = .ok (.iload_n 1, 1) := by decide +kernel
theorem dX10_chooses_5 : decode cX10_chooses 5 = .ok (.invokevirtual 323, 3) := by decide +kernel
theorem dX10_chooses_8 : decode cX10_chooses 8 = .ok (.putfield 377, 3) := by decide +kernel
theorem dX10_chooses_11 : decode cX10_chooses 11 = .ok (.aload_n 0, 1) := by decide +kernel
theorem dX10_chooses_12 : decode cX10_chooses 12 = .ok (.iload_n 1, 1) := by decide +kernel
theorem dX10_chooses_13 : decode cX10_chooses 13 = .ok (.putfield 380, 3) := by decide +kernel
theorem dX10_chooses_16 : decode cX10_chooses 16 = .ok (.aload_n 0, 1) := by decide +kernel
theorem dX10_chooses_17 : decode cX10_chooses 17 = .ok (.iconst 0, 1) := by decide +kernel
theorem dX10_chooses_18 : decode cX10_chooses 18 = .ok (.putfield 383, 3) := by decide +kernel
theorem dX10_chooses_21 : decode cX10_chooses 21 = .ok (.iload 4, 2) := by decide +kernel
theorem dX10_chooses_23 : decode cX10_chooses 23 = .ok (.ifCond .ne 5, 3) := by decide +kernel
theorem dX10_chooses_26 : decode cX10_chooses 26 = .ok (.iconst 1, 1) := by decide +kernel
theorem dX10_chooses_27 : decode cX10_chooses 27 = .ok (.ireturn, 1) := by decide +kernel
theorem dX10_chooses_28 : decode cX10_chooses 28 = .ok (.iload_n 1, 1) := by decide +kernel
theorem dX10_chooses_29 : decode cX10_chooses 29 = .ok (.iload 4, 2) := by decide +kernel
theorem dX10_chooses_31 : decode cX10_chooses 31 = .ok (.iconst 1, 1) := by decide +kernel
theorem dX10_chooses_32 : decode cX10_chooses 32 = .ok (.isub, 1) := by decide +kernel
theorem dX10_chooses_33 : decode cX10_chooses 33 = .ok (.invokestatic 232, 3) := by decide +kernel
theorem dX10_chooses_36 : decode cX10_chooses 36 = .ok (.ifCond .ne 18, 3) := by decide +kernel
theorem dX10_chooses_39 : decode cX10_chooses 39 = .ok (.aload_n 0, 1) := by decide +kernel
theorem dX10_chooses_40 : decode cX10_chooses 40 = .ok (.aload_n 0, 1) := by decide +kernel
theorem dX10_chooses_41 : decode cX10_chooses 41 = .ok (.getfield 377, 3) := by decide +kernel
theorem dX10_chooses_44 : decode cX10_chooses 44 = .ok (.iload 4, 2) := by decide +kernel
theorem dX10_chooses_46 : decode cX10_chooses 46 = .ok (.iconst 1, 1) := by decide +kernel
theorem dX10_chooses_47 : decode cX10_chooses 47 = .ok (.isub, 1) := by decide +kernel
theorem dX10_chooses_48 : decode cX10_chooses 48 = .ok (.invokevirtual 327, 3) := by decide +kernel
theorem dX10_chooses_51 : decode cX10_chooses 51 = .ok (.ifCond .eq 5, 3) := by decide +kernel
theorem dX10_chooses_54 : decode cX10_chooses 54 = .ok (.iconst 0, 1) := by decide +kernel
theorem dX10_chooses_55 : decode cX10_chooses 55 = .ok (.ireturn, 1) := by decide +kernel
theorem dX10_chooses_56 : decode cX10_chooses 56 = .ok (.aload_n 0, 1) := by decide +kernel
theorem dX10_chooses_57 : decode cX10_chooses 57 = .ok (.aload_n 0, 1) := by decide +kernel
theorem dX10_chooses_58 : decode cX10_chooses 58 = .ok (.getfield 377, 3) := by decide +kernel
theorem dX10_chooses_61 : decode cX10_chooses 61 = .ok (.iload_n 2, 1) := by decide +kernel
theorem dX10_chooses_62 : decode cX10_chooses 62 = .ok (.iconst 1, 1) := by decide +kernel
theorem dX10_chooses_63 : decode cX10_chooses 63 = .ok (.if_icmp .ne 8, 3) := by decide +kernel
theorem dX10_chooses_66 : decode cX10_chooses 66 = .ok (.bipush 6, 2) := by decide +kernel
theorem dX10_chooses_68 : decode cX10_chooses 68 = .ok (.goto 4, 3) := by decide +kernel
theorem dX10_chooses_71 : decode cX10_chooses 71 = .ok (.iconst 2, 1) := by decide +kernel
theorem dX10_chooses_72 : decode cX10_chooses 72 = .ok (.isub, 1) := by decide +kernel
theorem dX10_chooses_73 : decode cX10_chooses 73 = .ok (.invokestatic 311, 3) := by decide +kernel
theorem dX10_chooses_76 : decode cX10_chooses 76 = .ok (.putfield 377, 3) := by decide +kernel
theorem dX10_chooses_79 : decode cX10_chooses 79 = .ok (.aload_n 0, 1) := by decide +kernel
theorem dX10_chooses_80 : decode cX10_chooses 80 = .ok (.iload_n 1, 1) := by decide +kernel
theorem dX10_chooses_81 : decode cX10_chooses 81 = .ok (.iconst 1, 1) := by decide +kernel
theorem dX10_chooses_82 : decode cX10_chooses 82 = .ok (.iload 4, 2) := by decide +kernel
theorem dX10_chooses_84 : decode cX10_chooses 84 = .ok (.iconst 1, 1) := by decide +kernel
theorem dX10_chooses_85 : decode cX10_chooses 85 = .ok (.isub, 1) := by decide +kernel
theorem dX10_chooses_86 : decode cX10_chooses 86 = .ok (.ishl, 1) := by decide +kernel
theorem dX10_chooses_87 : decode cX10_chooses 87 = .ok (.ior, 1) := by decide +kernel
theorem dX10_chooses_88 : decode cX10_chooses 88 = .ok (.putfield 380, 3) := by decide +kernel
theorem dX10_chooses_91 : decode cX10_chooses 91 = .ok (.aload_n 0, 1) := by decide +kernel
theorem dX10_chooses_92 : decode cX10_chooses 92 = .ok (.iconst 1, 1) := by decide +kernel
theorem dX10_chooses_93 : decode cX10_chooses 93 = .ok (.putfield 383, 3) := by decide +kernel
theorem dX10_chooses_96 : decode cX10_chooses 96 = .ok (.iconst 1, 1) := by decide +kernel
theorem dX10_chooses_97 : decode cX10_chooses 97 = .ok (.ireturn, 1) := by decide +kernel
theorem dX10_choices_0 : decode cX10_choices 0 = .ok (.iconst 0, 1) := by decide +kernel
theorem dX10_choices_1 : decode cX10_choices 1 = .ok (.istore_n 1, 1) := by decide +kernel
theorem dX10_choices_2 : decode cX10_choices 2 = .ok (.iload_n 1, 1) := by decide +kernel
theorem dX10_choices_3 : decode cX10_choices 3 = .ok (.sipush 7712, 3) := by decide +kernel
theorem dX10_choices_6 : decode cX10_choices 6 = .ok (.if_icmp .ge 102, 3) := by decide +kernel
theorem dX10_choices_9 : decode cX10_choices 9 = .ok (.iconst 0, 1) := by decide +kernel
theorem dX10_choices_10 : decode cX10_choices 10 = .ok (.istore_n 2, 1) := by decide +kernel
theorem dX10_choices_11 : decode cX10_choices 11 = .ok (.iload_n 2, 1) := by decide +kernel
theorem dX10_choices_12 : decode cX10_choices 12 = .ok (.iconst 5, 1) := by decide +kernel
theorem dX10_choices_13 : decode cX10_choices 13 = .ok (.if_icmp .ge 89, 3) := by decide +kernel
theorem dX10_choices_16 : decode cX10_choices 16 = .ok (.aload_n 0, 1) := by decide +kernel
theorem dX10_choices_17 : decode cX10_choices 17 = .ok (.iload_n 1, 1) := by decide +kernel
theorem dX10_choices_18 : decode cX10_choices 18 = .ok (.sipush 241, 3) := by decide +kernel
theorem dX10_choices_21 : decode cX10_choices 21 = .ok (.idiv, 1) := by decide +kernel
theorem dX10_choices_22 : decode cX10_choices 22 = .ok (.iconst 2, 1) := by decide +kernel
theorem dX10_choices_23 : decode cX10_choices 23 = .ok (.idiv, 1) := by decide +kernel
theorem dX10_choices_24 : decode cX10_choices 24 = .ok (.iload_n 1, 1) := by decide +kernel
theorem dX10_choices_25 : decode cX10_choices 25 = .ok (.sipush 241, 3) := by decide +kernel
theorem dX10_choices_28 : decode cX10_choices 28 = .ok (.idiv, 1) := by decide +kernel
theorem dX10_choices_29 : decode cX10_choices 29 = .ok (.iconst 2, 1) := by decide +kernel
theorem dX10_choices_30 : decode cX10_choices 30 = .ok (.irem, 1) := by decide +kernel
theorem dX10_choices_31 : decode cX10_choices 31 = .ok (.bipush 10, 2) := by decide +kernel
theorem dX10_choices_33 : decode cX10_choices 33 = .ok (.iload_n 1, 1) := by decide +kernel
theorem dX10_choices_34 : decode cX10_choices 34 = .ok (.sipush 241, 3) := by decide +kernel
theorem dX10_choices_37 : decode cX10_choices 37 = .ok (.irem, 1) := by decide +kernel
theorem dX10_choices_38 : decode cX10_choices 38 = .ok (.iadd, 1) := by decide +kernel
theorem dX10_choices_39 : decode cX10_choices 39 = .ok (.iload_n 2, 1) := by decide +kernel
theorem dX10_choices_40 : decode cX10_choices 40 = .ok (.invokevirtual 386, 3) := by decide +kernel
theorem dX10_choices_43 : decode cX10_choices 43 = .ok (.istore_n 3, 1) := by decide +kernel
theorem dX10_choices_44 : decode cX10_choices 44 = .ok (.aload_n 0, 1) := by decide +kernel
theorem dX10_choices_45 : decode cX10_choices 45 = .ok (.getfield 89, 3) := by decide +kernel
theorem dX10_choices_48 : decode cX10_choices 48 = .ok (.iconst 5, 1) := by decide +kernel
theorem dX10_choices_49 : decode cX10_choices 49 = .ok (.iload_n 1, 1) := by decide +kernel
theorem dX10_choices_50 : decode cX10_choices 50 = .ok (.imul, 1) := by decide +kernel
theorem dX10_choices_51 : decode cX10_choices 51 = .ok (.iload_n 2, 1) := by decide +kernel
theorem dX10_choices_52 : decode cX10_choices 52 = .ok (.iadd, 1) := by decide +kernel
theorem dX10_choices_53 : decode cX10_choices 53 = .ok (.iload_n 3, 1) := by decide +kernel
theorem dX10_choices_54 : decode cX10_choices 54 = .ok (.ifCond .eq 22, 3) := by decide +kernel
theorem dX10_choices_57 : decode cX10_choices 57 = .ok (.iconst 0, 1) := by decide +kernel
theorem dX10_choices_58 : decode cX10_choices 58 = .ok (.aload_n 0, 1) := by decide +kernel
theorem dX10_choices_59 : decode cX10_choices 59 = .ok (.getfield 380, 3) := by decide +kernel
theorem dX10_choices_62 : decode cX10_choices 62 = .ok (.aload_n 0, 1) := by decide +kernel
theorem dX10_choices_63 : decode cX10_choices 63 = .ok (.getfield 383, 3) := by decide +kernel
theorem dX10_choices_66 : decode cX10_choices 66 = .ok (.aload_n 0, 1) := by decide +kernel
theorem dX10_choices_67 : decode cX10_choices 67 = .ok (.getfield 377, 3) := by decide +kernel
theorem dX10_choices_70 : decode cX10_choices 70 = .ok (.invokestatic 390, 3) := by decide +kernel
theorem dX10_choices_73 : decode cX10_choices 73 = .ok (.goto 4, 3) := by decide +kernel
theorem dX10_choices_76 : decode cX10_choices 76 = .ok (.iconst (-1), 1) := by decide +kernel
theorem dX10_choices_77 : decode cX10_choices 77 = .ok (.iastore, 1) := by decide +kernel
theorem dX10_choices_78 : decode cX10_choices 78 = .ok (.aload_n 0, 1) := by decide +kernel
theorem dX10_choices_79 : decode cX10_choices 79 = .ok (.getfield 92, 3) := by decide +kernel
theorem dX10_choices_82 : decode cX10_choices 82 = .ok (.iconst 5, 1) := by decide +kernel
theorem dX10_choices_83 : decode cX10_choices 83 = .ok (.iload_n 1, 1) := by decide +kernel
theorem dX10_choices_84 : decode cX10_choices 84 = .ok (.imul, 1) := by decide +kernel
theorem dX10_choices_85 : decode cX10_choices 85 = .ok (.iload_n 2, 1) := by decide +kernel
theorem dX10_choices_86 : decode cX10_choices 86 = .ok (.iadd, 1) := by decide +kernel
theorem dX10_choices_87 : decode cX10_choices 87 = .ok (.sipush 3000, 3) := by decide +kernel
theorem dX10_choices_90 : decode cX10_choices 90 = .ok (.aload_n 0, 1) := by decide +kernel
theorem dX10_choices_91 : decode cX10_choices 91 = .ok (.getfield 377, 3) := by decide +kernel
theorem dX10_choices_94 : decode cX10_choices 94 = .ok (.idiv, 1) := by decide +kernel
theorem dX10_choices_95 : decode cX10_choices 95 = .ok (.iastore, 1) := by decide +kernel
theorem dX10_choices_96 : decode cX10_choices 96 = .ok (.iinc 2 1, 3) := by decide +kernel
theorem dX10_choices_99 : decode cX10_choices 99 = .ok (.goto (-88), 3) := by decide +kernel
theorem dX10_choices_102 : decode cX10_choices 102 = .ok (.iinc 1 1, 3) := by decide +kernel
theorem dX10_choices_105 : decode cX10_choices 105 = .ok (.goto (-103), 3) := by decide +kernel
theorem dX10_choices_108 : decode cX10_choices 108 = .ok (.return_, 1) := by decide +kernel
theorem dX10_timeBy_0 : decode cX10_timeBy 0 = .ok (.aload_n 0, 1) := by decide +kernel
theorem dX10_timeBy_1 : decode cX10_timeBy 1 = .ok (.getfield 89, 3) := by decide +kernel
theorem dX10_timeBy_4 : decode cX10_timeBy 4 = .ok (.iconst 5, 1) := by decide +kernel
theorem dX10_timeBy_5 : decode cX10_timeBy 5 = .ok (.iload_n 2, 1) := by decide +kernel
theorem dX10_timeBy_6 : decode cX10_timeBy 6 = .ok (.imul, 1) := by decide +kernel
theorem dX10_timeBy_7 : decode cX10_timeBy 7 = .ok (.iload_n 3, 1) := by decide +kernel
theorem dX10_timeBy_8 : decode cX10_timeBy 8 = .ok (.iadd, 1) := by decide +kernel
theorem dX10_timeBy_9 : decode cX10_timeBy 9 = .ok (.iaload, 1) := by decide +kernel
theorem dX10_timeBy_10 : decode cX10_timeBy 10 = .ok (.istore 4, 2) := by decide +kernel
theorem dX10_timeBy_12 : decode cX10_timeBy 12 = .ok (.iload 4, 2) := by decide +kernel
theorem dX10_timeBy_14 : decode cX10_timeBy 14 = .ok (.ifCond .ge 9, 3) := by decide +kernel
theorem dX10_timeBy_17 : decode cX10_timeBy 17 = .ok (.ldc_w 394, 3) := by decide +kernel
theorem dX10_timeBy_20 : decode cX10_timeBy 20 = .ok (.goto 29, 3) := by decide +kernel
theorem dX10_timeBy_23 : decode cX10_timeBy 23 = .ok (.aload_n 0, 1) := by decide +kernel
theorem dX10_timeBy_24 : decode cX10_timeBy 24 = .ok (.getfield 92, 3) := by decide +kernel
theorem dX10_timeBy_27 : decode cX10_timeBy 27 = .ok (.iconst 5, 1) := by decide +kernel
theorem dX10_timeBy_28 : decode cX10_timeBy 28 = .ok (.iload_n 2, 1) := by decide +kernel
theorem dX10_timeBy_29 : decode cX10_timeBy 29 = .ok (.imul, 1) := by decide +kernel
theorem dX10_timeBy_30 : decode cX10_timeBy 30 = .ok (.iload_n 3, 1) := by decide +kernel
theorem dX10_timeBy_31 : decode cX10_timeBy 31 = .ok (.iadd, 1) := by decide +kernel
theorem dX10_timeBy_32 : decode cX10_timeBy 32 = .ok (.iaload, 1) := by decide +kernel
theorem dX10_timeBy_33 : decode cX10_timeBy 33 = .ok (.aload_n 0, 1) := by decide +kernel
theorem dX10_timeBy_34 : decode cX10_timeBy 34 = .ok (.getfield 76, 3) := by decide +kernel
theorem dX10_timeBy_37 : decode cX10_timeBy 37 = .ok (.sipush 7712, 3) := by decide +kernel
theorem dX10_timeBy_40 : decode cX10_timeBy 40 = .ok (.iload_n 1, 1) := by decide +kernel
theorem dX10_timeBy_41 : decode cX10_timeBy 41 = .ok (.iconst 1, 1) := by decide +kernel
theorem dX10_timeBy_42 : decode cX10_timeBy 42 = .ok (.iadd, 1) := by decide +kernel
theorem dX10_timeBy_43 : decode cX10_timeBy 43 = .ok (.imul, 1) := by decide +kernel
theorem dX10_timeBy_44 : decode cX10_timeBy 44 = .ok (.iload 4, 2) := by decide +kernel
theorem dX10_timeBy_46 : decode cX10_timeBy 46 = .ok (.iadd, 1) := by decide +kernel
theorem dX10_timeBy_47 : decode cX10_timeBy 47 = .ok (.iaload, 1) := by decide +kernel
theorem dX10_timeBy_48 : decode cX10_timeBy 48 = .ok (.iadd, 1) := by decide +kernel
theorem dX10_timeBy_49 : decode cX10_timeBy 49 = .ok (.ireturn, 1) := by decide +kernel
theorem dX10_bestOf_0 : decode cX10_bestOf 0 = .ok (.aload_n 0, 1) := by decide +kernel
theorem dX10_bestOf_1 : decode cX10_bestOf 1 = .ok (.getfield 37, 3) := by decide +kernel
theorem dX10_bestOf_4 : decode cX10_bestOf 4 = .ok (.iconst 1, 1) := by decide +kernel
theorem dX10_bestOf_5 : decode cX10_bestOf 5 = .ok (.iaload, 1) := by decide +kernel
theorem dX10_bestOf_6 : decode cX10_bestOf 6 = .ok (.aload_n 0, 1) := by decide +kernel
theorem dX10_bestOf_7 : decode cX10_bestOf 7 = .ok (.getfield 37, 3) := by decide +kernel
theorem dX10_bestOf_10 : decode cX10_bestOf 10 = .ok (.bipush 113, 2) := by decide +kernel
theorem dX10_bestOf_12 : decode cX10_bestOf 12 = .ok (.iaload, 1) := by decide +kernel
theorem dX10_bestOf_13 : decode cX10_bestOf 13 = .ok (.iadd, 1) := by decide +kernel
theorem dX10_bestOf_14 : decode cX10_bestOf 14 = .ok (.aload_n 0, 1) := by decide +kernel
theorem dX10_bestOf_15 : decode cX10_bestOf 15 = .ok (.bipush 15, 2) := by decide +kernel
theorem dX10_bestOf_17 : decode cX10_bestOf 17 = .ok (.invokevirtual 308, 3) := by decide +kernel
theorem dX10_bestOf_20 : decode cX10_bestOf 20 = .ok (.iadd, 1) := by decide +kernel
theorem dX10_bestOf_21 : decode cX10_bestOf 21 = .ok (.istore_n 1, 1) := by decide +kernel
theorem dX10_bestOf_22 : decode cX10_bestOf 22 = .ok (.iconst 0, 1) := by decide +kernel
theorem dX10_bestOf_23 : decode cX10_bestOf 23 = .ok (.istore_n 2, 1) := by decide +kernel
theorem dX10_bestOf_24 : decode cX10_bestOf 24 = .ok (.iload_n 2, 1) := by decide +kernel
theorem dX10_bestOf_25 : decode cX10_bestOf 25 = .ok (.bipush 16, 2) := by decide +kernel
theorem dX10_bestOf_27 : decode cX10_bestOf 27 = .ok (.if_icmp .ge 90, 3) := by decide +kernel
theorem dX10_bestOf_30 : decode cX10_bestOf 30 = .ok (.iconst 0, 1) := by decide +kernel
theorem dX10_bestOf_31 : decode cX10_bestOf 31 = .ok (.istore_n 3, 1) := by decide +kernel
theorem dX10_bestOf_32 : decode cX10_bestOf 32 = .ok (.iload_n 3, 1) := by decide +kernel
theorem dX10_bestOf_33 : decode cX10_bestOf 33 = .ok (.iconst 2, 1) := by decide +kernel
theorem dX10_bestOf_34 : decode cX10_bestOf 34 = .ok (.if_icmp .ge 77, 3) := by decide +kernel
theorem dX10_bestOf_37 : decode cX10_bestOf 37 = .ok (.bipush 10, 2) := by decide +kernel
theorem dX10_bestOf_39 : decode cX10_bestOf 39 = .ok (.istore 4, 2) := by decide +kernel
theorem dX10_bestOf_41 : decode cX10_bestOf 41 = .ok (.iload 4, 2) := by decide +kernel
theorem dX10_bestOf_43 : decode cX10_bestOf 43 = .ok (.sipush 250, 3) := by decide +kernel
theorem dX10_bestOf_46 : decode cX10_bestOf 46 = .ok (.if_icmp .gt 59, 3) := by decide +kernel
theorem dX10_bestOf_49 : decode cX10_bestOf 49 = .ok (.iload_n 2, 1) := by decide +kernel
theorem dX10_bestOf_50 : decode cX10_bestOf 50 = .ok (.bipush 15, 2) := by decide +kernel
theorem dX10_bestOf_52 : decode cX10_bestOf 52 = .ok (.if_icmp .ne 13, 3) := by decide +kernel
theorem dX10_bestOf_55 : decode cX10_bestOf 55 = .ok (.aload_n 0, 1) := by decide +kernel
theorem dX10_bestOf_56 : decode cX10_bestOf 56 = .ok (.iload 4, 2) := by decide +kernel
theorem dX10_bestOf_58 : decode cX10_bestOf 58 = .ok (.iload_n 1, 1) := by decide +kernel
theorem dX10_bestOf_59 : decode cX10_bestOf 59 = .ok (.invokevirtual 365, 3) := by decide +kernel
theorem dX10_bestOf_62 : decode cX10_bestOf 62 = .ok (.goto 4, 3) := by decide +kernel
theorem dX10_bestOf_65 : decode cX10_bestOf 65 = .ok (.iconst (-1), 1) := by decide +kernel
theorem dX10_bestOf_66 : decode cX10_bestOf 66 = .ok (.istore 5, 2) := by decide +kernel
theorem dX10_bestOf_68 : decode cX10_bestOf 68 = .ok (.aload_n 0, 1) := by decide +kernel
theorem dX10_bestOf_69 : decode cX10_bestOf 69 = .ok (.getfield 76, 3) := by decide +kernel
theorem dX10_bestOf_72 : decode cX10_bestOf 72 = .ok (.aload_n 0, 1) := by decide +kernel
theorem dX10_bestOf_73 : decode cX10_bestOf 73 = .ok (.getfield 37, 3) := by decide +kernel
theorem dX10_bestOf_76 : decode cX10_bestOf 76 = .ok (.iconst 0, 1) := by decide +kernel
theorem dX10_bestOf_77 : decode cX10_bestOf 77 = .ok (.iaload, 1) := by decide +kernel
theorem dX10_bestOf_78 : decode cX10_bestOf 78 = .ok (.iload_n 2, 1) := by decide +kernel
theorem dX10_bestOf_79 : decode cX10_bestOf 79 = .ok (.iload_n 3, 1) := by decide +kernel
theorem dX10_bestOf_80 : decode cX10_bestOf 80 = .ok (.iload 4, 2) := by decide +kernel
theorem dX10_bestOf_82 : decode cX10_bestOf 82 = .ok (.invokestatic 390, 3) := by decide +kernel
theorem dX10_bestOf_85 : decode cX10_bestOf 85 = .ok (.iload 5, 2) := by decide +kernel
theorem dX10_bestOf_87 : decode cX10_bestOf 87 = .ok (.ifCond .ge 9, 3) := by decide +kernel
theorem dX10_bestOf_90 : decode cX10_bestOf 90 = .ok (.ldc_w 394, 3) := by decide +kernel
theorem dX10_bestOf_93 : decode cX10_bestOf 93 = .ok (.goto 5, 3) := by decide +kernel
theorem dX10_bestOf_96 : decode cX10_bestOf 96 = .ok (.iload 5, 2) := by decide +kernel
theorem dX10_bestOf_98 : decode cX10_bestOf 98 = .ok (.iastore, 1) := by decide +kernel
theorem dX10_bestOf_99 : decode cX10_bestOf 99 = .ok (.iinc 4 1, 3) := by decide +kernel
theorem dX10_bestOf_102 : decode cX10_bestOf 102 = .ok (.goto (-61), 3) := by decide +kernel
theorem dX10_bestOf_105 : decode cX10_bestOf 105 = .ok (.iinc 3 1, 3) := by decide +kernel
theorem dX10_bestOf_108 : decode cX10_bestOf 108 = .ok (.goto (-76), 3) := by decide +kernel
theorem dX10_bestOf_111 : decode cX10_bestOf 111 = .ok (.iinc 2 1, 3) := by decide +kernel
theorem dX10_bestOf_114 : decode cX10_bestOf 114 = .ok (.goto (-90), 3) := by decide +kernel
theorem dX10_bestOf_117 : decode cX10_bestOf 117 = .ok (.aload_n 0, 1) := by decide +kernel
theorem dX10_bestOf_118 : decode cX10_bestOf 118 = .ok (.invokevirtual 395, 3) := by decide +kernel
theorem dX10_bestOf_121 : decode cX10_bestOf 121 = .ok (.aload_n 0, 1) := by decide +kernel
theorem dX10_bestOf_122 : decode cX10_bestOf 122 = .ok (.getfield 37, 3) := by decide +kernel
theorem dX10_bestOf_125 : decode cX10_bestOf 125 = .ok (.iconst 0, 1) := by decide +kernel
theorem dX10_bestOf_126 : decode cX10_bestOf 126 = .ok (.iaload, 1) := by decide +kernel
theorem dX10_bestOf_127 : decode cX10_bestOf 127 = .ok (.iconst 1, 1) := by decide +kernel
theorem dX10_bestOf_128 : decode cX10_bestOf 128 = .ok (.isub, 1) := by decide +kernel
theorem dX10_bestOf_129 : decode cX10_bestOf 129 = .ok (.istore_n 2, 1) := by decide +kernel
theorem dX10_bestOf_130 : decode cX10_bestOf 130 = .ok (.iload_n 2, 1) := by decide +kernel
theorem dX10_bestOf_131 : decode cX10_bestOf 131 = .ok (.ifCond .lt 73, 3) := by decide +kernel
theorem dX10_bestOf_134 : decode cX10_bestOf 134 = .ok (.iconst 0, 1) := by decide +kernel
theorem dX10_bestOf_135 : decode cX10_bestOf 135 = .ok (.istore_n 3, 1) := by decide +kernel
theorem dX10_bestOf_136 : decode cX10_bestOf 136 = .ok (.iload_n 3, 1) := by decide +kernel
theorem dX10_bestOf_137 : decode cX10_bestOf 137 = .ok (.sipush 7712, 3) := by decide +kernel
theorem dX10_bestOf_140 : decode cX10_bestOf 140 = .ok (.if_icmp .ge 58, 3) := by decide +kernel
theorem dX10_bestOf_143 : decode cX10_bestOf 143 = .ok (.ldc_w 394, 3) := by decide +kernel
theorem dX10_bestOf_146 : decode cX10_bestOf 146 = .ok (.istore 4, 2) := by decide +kernel
theorem dX10_bestOf_148 : decode cX10_bestOf 148 = .ok (.iconst 0, 1) := by decide +kernel
theorem dX10_bestOf_149 : decode cX10_bestOf 149 = .ok (.istore 5, 2) := by decide +kernel
theorem dX10_bestOf_151 : decode cX10_bestOf 151 = .ok (.iload 5, 2) := by decide +kernel
theorem dX10_bestOf_153 : decode cX10_bestOf 153 = .ok (.iconst 5, 1) := by decide +kernel
theorem dX10_bestOf_154 : decode cX10_bestOf 154 = .ok (.if_icmp .ge 24, 3) := by decide +kernel
theorem dX10_bestOf_157 : decode cX10_bestOf 157 = .ok (.iload 4, 2) := by decide +kernel
theorem dX10_bestOf_159 : decode cX10_bestOf 159 = .ok (.aload_n 0, 1) := by decide +kernel
theorem dX10_bestOf_160 : decode cX10_bestOf 160 = .ok (.iload_n 2, 1) := by decide +kernel
theorem dX10_bestOf_161 : decode cX10_bestOf 161 = .ok (.iload_n 3, 1) := by decide +kernel
theorem dX10_bestOf_162 : decode cX10_bestOf 162 = .ok (.iload 5, 2) := by decide +kernel
theorem dX10_bestOf_164 : decode cX10_bestOf 164 = .ok (.invokevirtual 398, 3) := by decide +kernel
theorem dX10_bestOf_167 : decode cX10_bestOf 167 = .ok (.invokestatic 27, 3) := by decide +kernel
theorem dX10_bestOf_170 : decode cX10_bestOf 170 = .ok (.istore 4, 2) := by decide +kernel
theorem dX10_bestOf_172 : decode cX10_bestOf 172 = .ok (.iinc 5 1, 3) := by decide +kernel
theorem dX10_bestOf_175 : decode cX10_bestOf 175 = .ok (.goto (-24), 3) := by decide +kernel
theorem dX10_bestOf_178 : decode cX10_bestOf 178 = .ok (.aload_n 0, 1) := by decide +kernel
theorem dX10_bestOf_179 : decode cX10_bestOf 179 = .ok (.getfield 76, 3) := by decide +kernel
theorem dX10_bestOf_182 : decode cX10_bestOf 182 = .ok (.sipush 7712, 3) := by decide +kernel
theorem dX10_bestOf_185 : decode cX10_bestOf 185 = .ok (.iload_n 2, 1) := by decide +kernel
theorem dX10_bestOf_186 : decode cX10_bestOf 186 = .ok (.imul, 1) := by decide +kernel
theorem dX10_bestOf_187 : decode cX10_bestOf 187 = .ok (.iload_n 3, 1) := by decide +kernel
theorem dX10_bestOf_188 : decode cX10_bestOf 188 = .ok (.iadd, 1) := by decide +kernel
theorem dX10_bestOf_189 : decode cX10_bestOf 189 = .ok (.iload 4, 2) := by decide +kernel
theorem dX10_bestOf_191 : decode cX10_bestOf 191 = .ok (.iastore, 1) := by decide +kernel
theorem dX10_bestOf_192 : decode cX10_bestOf 192 = .ok (.iinc 3 1, 3) := by decide +kernel
theorem dX10_bestOf_195 : decode cX10_bestOf 195 = .ok (.goto (-59), 3) := by decide +kernel
theorem dX10_bestOf_198 : decode cX10_bestOf 198 = .ok (.iinc 2 (-1), 3) := by decide +kernel
theorem dX10_bestOf_201 : decode cX10_bestOf 201 = .ok (.goto (-71), 3) := by decide +kernel
theorem dX10_bestOf_204 : decode cX10_bestOf 204 = .ok (.aload_n 0, 1) := by decide +kernel
theorem dX10_bestOf_205 : decode cX10_bestOf 205 = .ok (.getfield 76, 3) := by decide +kernel
theorem dX10_bestOf_208 : decode cX10_bestOf 208 = .ok (.iconst 0, 1) := by decide +kernel
theorem dX10_bestOf_209 : decode cX10_bestOf 209 = .ok (.iconst 0, 1) := by decide +kernel
theorem dX10_bestOf_210 : decode cX10_bestOf 210 = .ok (.iconst 0, 1) := by decide +kernel
theorem dX10_bestOf_211 : decode cX10_bestOf 211 = .ok (.bipush 30, 2) := by decide +kernel
theorem dX10_bestOf_213 : decode cX10_bestOf 213 = .ok (.invokestatic 390, 3) := by decide +kernel
theorem dX10_bestOf_216 : decode cX10_bestOf 216 = .ok (.iaload, 1) := by decide +kernel
theorem dX10_bestOf_217 : decode cX10_bestOf 217 = .ok (.ireturn, 1) := by decide +kernel
theorem dX10_when_0 : decode cX10_when 0 = .ok (.aload_n 0, 1) := by decide +kernel
theorem dX10_when_1 : decode cX10_when 1 = .ok (.iconst 0, 1) := by decide +kernel
theorem dX10_when_2 : decode cX10_when 2 = .ok (.putfield 1, 3) := by decide +kernel
theorem dX10_when_5 : decode cX10_when 5 = .ok (.aload_n 0, 1) := by decide +kernel
theorem dX10_when_6 : decode cX10_when 6 = .ok (.getfield 404, 3) := by decide +kernel
theorem dX10_when_9 : decode cX10_when 9 = .ok (.ifCond .eq 21, 3) := by decide +kernel
theorem dX10_when_12 : decode cX10_when 12 = .ok (.iload_n 1, 1) := by decide +kernel
theorem dX10_when_13 : decode cX10_when 13 = .ok (.iconst 0, 1) := by decide +kernel
theorem dX10_when_14 : decode cX10_when 14 = .ok (.iconst 3, 1) := by decide +kernel
theorem dX10_when_15 : decode cX10_when 15 = .ok (.invokestatic 211, 3) := by decide +kernel
theorem dX10_when_18 : decode cX10_when 18 = .ok (.ifCond .eq 12, 3) := by decide +kernel
theorem dX10_when_21 : decode cX10_when 21 = .ok (.aload_n 0, 1) := by decide +kernel
theorem dX10_when_22 : decode cX10_when 22 = .ok (.getfield 79, 3) := by decide +kernel
theorem dX10_when_25 : decode cX10_when 25 = .ok (.iload_n 1, 1) := by decide +kernel
theorem dX10_when_26 : decode cX10_when 26 = .ok (.iaload, 1) := by decide +kernel
theorem dX10_when_27 : decode cX10_when 27 = .ok (.goto 4, 3) := by decide +kernel
theorem dX10_when_30 : decode cX10_when 30 = .ok (.iconst (-1), 1) := by decide +kernel
theorem dX10_when_31 : decode cX10_when 31 = .ok (.ireturn, 1) := by decide +kernel
theorem dX10_place_0 : decode cX10_place 0 = .ok (.iload_n 0, 1) := by decide +kernel
theorem dX10_place_1 : decode cX10_place 1 = .ok (.bipush 10, 2) := by decide +kernel
theorem dX10_place_3 : decode cX10_place 3 = .ok (.imul, 1) := by decide +kernel
theorem dX10_place_4 : decode cX10_place 4 = .ok (.iload_n 1, 1) := by decide +kernel
theorem dX10_place_5 : decode cX10_place 5 = .ok (.iadd, 1) := by decide +kernel
theorem dX10_place_6 : decode cX10_place 6 = .ok (.sipush 241, 3) := by decide +kernel
theorem dX10_place_9 : decode cX10_place 9 = .ok (.imul, 1) := by decide +kernel
theorem dX10_place_10 : decode cX10_place 10 = .ok (.iload_n 2, 1) := by decide +kernel
theorem dX10_place_11 : decode cX10_place 11 = .ok (.iadd, 1) := by decide +kernel
theorem dX10_place_12 : decode cX10_place 12 = .ok (.bipush 10, 2) := by decide +kernel
theorem dX10_place_14 : decode cX10_place 14 = .ok (.isub, 1) := by decide +kernel
theorem dX10_place_15 : decode cX10_place 15 = .ok (.ireturn, 1) := by decide +kernel
theorem dX10_downBy_0 : decode cX10_downBy 0 = .ok (.aload_n 0, 1) := by decide +kernel
theorem dX10_downBy_1 : decode cX10_downBy 1 = .ok (.iload_n 1, 1) := by decide +kernel
theorem dX10_downBy_2 : decode cX10_downBy 2 = .ok (.iload_n 3, 1) := by decide +kernel
theorem dX10_downBy_3 : decode cX10_downBy 3 = .ok (.iload 4, 2) := by decide +kernel
theorem dX10_downBy_5 : decode cX10_downBy 5 = .ok (.iload_n 2, 1) := by decide +kernel
theorem dX10_downBy_6 : decode cX10_downBy 6 = .ok (.iload 5, 2) := by decide +kernel
theorem dX10_downBy_8 : decode cX10_downBy 8 = .ok (.invokevirtual 355, 3) := by decide +kernel
theorem dX10_downBy_11 : decode cX10_downBy 11 = .ok (.istore 6, 2) := by decide +kernel
theorem dX10_downBy_13 : decode cX10_downBy 13 = .ok (.aload_n 0, 1) := by decide +kernel
theorem dX10_downBy_14 : decode cX10_downBy 14 = .ok (.iload_n 1, 1) := by decide +kernel
theorem dX10_downBy_15 : decode cX10_downBy 15 = .ok (.iload 6, 2) := by decide +kernel
theorem dX10_downBy_17 : decode cX10_downBy 17 = .ok (.iload 5, 2) := by decide +kernel
theorem dX10_downBy_19 : decode cX10_downBy 19 = .ok (.invokevirtual 359, 3) := by decide +kernel
theorem dX10_downBy_22 : decode cX10_downBy 22 = .ok (.ifCond .eq 9, 3) := by decide +kernel
theorem dX10_downBy_25 : decode cX10_downBy 25 = .ok (.ldc_w 394, 3) := by decide +kernel
theorem dX10_downBy_28 : decode cX10_downBy 28 = .ok (.goto 35, 3) := by decide +kernel
theorem dX10_downBy_31 : decode cX10_downBy 31 = .ok (.aload_n 0, 1) := by decide +kernel
theorem dX10_downBy_32 : decode cX10_downBy 32 = .ok (.getfield 37, 3) := by decide +kernel
theorem dX10_downBy_35 : decode cX10_downBy 35 = .ok (.bipush 44, 2) := by decide +kernel
theorem dX10_downBy_37 : decode cX10_downBy 37 = .ok (.iload_n 1, 1) := by decide +kernel
theorem dX10_downBy_38 : decode cX10_downBy 38 = .ok (.iadd, 1) := by decide +kernel
theorem dX10_downBy_39 : decode cX10_downBy 39 = .ok (.iaload, 1) := by decide +kernel
theorem dX10_downBy_40 : decode cX10_downBy 40 = .ok (.sipush 3000, 3) := by decide +kernel
theorem dX10_downBy_43 : decode cX10_downBy 43 = .ok (.imul, 1) := by decide +kernel
theorem dX10_downBy_44 : decode cX10_downBy 44 = .ok (.iload 6, 2) := by decide +kernel
theorem dX10_downBy_46 : decode cX10_downBy 46 = .ok (.idiv, 1) := by decide +kernel
theorem dX10_downBy_47 : decode cX10_downBy 47 = .ok (.aload_n 0, 1) := by decide +kernel
theorem dX10_downBy_48 : decode cX10_downBy 48 = .ok (.getfield 95, 3) := by decide +kernel
theorem dX10_downBy_51 : decode cX10_downBy 51 = .ok (.iload_n 1, 1) := by decide +kernel
theorem dX10_downBy_52 : decode cX10_downBy 52 = .ok (.iconst 1, 1) := by decide +kernel
theorem dX10_downBy_53 : decode cX10_downBy 53 = .ok (.iadd, 1) := by decide +kernel
theorem dX10_downBy_54 : decode cX10_downBy 54 = .ok (.iload 5, 2) := by decide +kernel
theorem dX10_downBy_56 : decode cX10_downBy 56 = .ok (.iload 6, 2) := by decide +kernel
theorem dX10_downBy_58 : decode cX10_downBy 58 = .ok (.invokestatic 407, 3) := by decide +kernel
theorem dX10_downBy_61 : decode cX10_downBy 61 = .ok (.iaload, 1) := by decide +kernel
theorem dX10_downBy_62 : decode cX10_downBy 62 = .ok (.iadd, 1) := by decide +kernel
theorem dX10_downBy_63 : decode cX10_downBy 63 = .ok (.ireturn, 1) := by decide +kernel
theorem dX10_height_0 : decode cX10_height 0 = .ok (.aload_n 0, 1) := by decide +kernel
theorem dX10_height_1 : decode cX10_height 1 = .ok (.iconst 0, 1) := by decide +kernel
theorem dX10_height_2 : decode cX10_height 2 = .ok (.putfield 1, 3) := by decide +kernel
theorem dX10_height_5 : decode cX10_height 5 = .ok (.aload_n 0, 1) := by decide +kernel
theorem dX10_height_6 : decode cX10_height 6 = .ok (.getfield 416, 3) := by decide +kernel
theorem dX10_height_9 : decode cX10_height 9 = .ok (.ifCond .eq 26, 3) := by decide +kernel
theorem dX10_height_12 : decode cX10_height 12 = .ok (.iload_n 1, 1) := by decide +kernel
theorem dX10_height_13 : decode cX10_height 13 = .ok (.iconst 0, 1) := by decide +kernel
theorem dX10_height_14 : decode cX10_height 14 = .ok (.aload_n 0, 1) := by decide +kernel
theorem dX10_height_15 : decode cX10_height 15 = .ok (.getfield 413, 3) := by decide +kernel
theorem dX10_height_18 : decode cX10_height 18 = .ok (.iconst 1, 1) := by decide +kernel
theorem dX10_height_19 : decode cX10_height 19 = .ok (.isub, 1) := by decide +kernel
theorem dX10_height_20 : decode cX10_height 20 = .ok (.invokestatic 211, 3) := by decide +kernel
theorem dX10_height_23 : decode cX10_height 23 = .ok (.ifCond .eq 12, 3) := by decide +kernel
theorem dX10_height_26 : decode cX10_height 26 = .ok (.aload_n 0, 1) := by decide +kernel
theorem dX10_height_27 : decode cX10_height 27 = .ok (.getfield 98, 3) := by decide +kernel
theorem dX10_height_30 : decode cX10_height 30 = .ok (.iload_n 1, 1) := by decide +kernel
theorem dX10_height_31 : decode cX10_height 31 = .ok (.iaload, 1) := by decide +kernel
theorem dX10_height_32 : decode cX10_height 32 = .ok (.goto 4, 3) := by decide +kernel
theorem dX10_height_35 : decode cX10_height 35 = .ok (.iconst (-1), 1) := by decide +kernel
theorem dX10_height_36 : decode cX10_height 36 = .ok (.ireturn, 1) := by decide +kernel
theorem dX10_take_0 : decode cX10_take 0 = .ok (.aload_n 0, 1) := by decide +kernel
theorem dX10_take_1 : decode cX10_take 1 = .ok (.iconst 0, 1) := by decide +kernel
theorem dX10_take_2 : decode cX10_take 2 = .ok (.putfield 1, 3) := by decide +kernel
theorem dX10_take_5 : decode cX10_take 5 = .ok (.iload_n 1, 1) := by decide +kernel
theorem dX10_take_6 : decode cX10_take 6 = .ok (.ifCond .ne 67, 3) := by decide +kernel
theorem dX10_take_9 : decode cX10_take 9 = .ok (.aload_n 0, 1) := by decide +kernel
theorem dX10_take_10 : decode cX10_take 10 = .ok (.getfield 416, 3) := by decide +kernel
theorem dX10_take_13 : decode cX10_take 13 = .ok (.ifCond .eq 18, 3) := by decide +kernel
theorem dX10_take_16 : decode cX10_take 16 = .ok (.aload_n 0, 1) := by decide +kernel
theorem dX10_take_17 : decode cX10_take 17 = .ok (.getfield 101, 3) := by decide +kernel
theorem dX10_take_20 : decode cX10_take 20 = .ok (.aload_n 0, 1) := by decide +kernel
theorem dX10_take_21 : decode cX10_take 21 = .ok (.getfield 37, 3) := by decide +kernel
theorem dX10_take_24 : decode cX10_take 24 = .ok (.sipush 334, 3) := by decide +kernel
theorem dX10_take_27 : decode cX10_take 27 = .ok (.iaload, 1) := by decide +kernel
theorem dX10_take_28 : decode cX10_take 28 = .ok (.if_icmp .eq 5, 3) := by decide +kernel
theorem dX10_take_31 : decode cX10_take 31 = .ok (.iconst 0, 1) := by decide +kernel
theorem dX10_take_32 : decode cX10_take 32 = .ok (.ireturn, 1) := by decide +kernel
theorem dX10_take_33 : decode cX10_take 33 = .ok (.aload_n 0, 1) := by decide +kernel
theorem dX10_take_34 : decode cX10_take 34 = .ok (.invokevirtual 371, 3) := by decide +kernel
theorem dX10_take_37 : decode cX10_take 37 = .ok (.iconst 0, 1) := by decide +kernel
theorem dX10_take_38 : decode cX10_take 38 = .ok (.istore_n 2, 1) := by decide +kernel
theorem dX10_take_39 : decode cX10_take 39 = .ok (.iload_n 2, 1) := by decide +kernel
theorem dX10_take_40 : decode cX10_take 40 = .ok (.aload_n 0, 1) := by decide +kernel
theorem dX10_take_41 : decode cX10_take 41 = .ok (.getfield 37, 3) := by decide +kernel
theorem dX10_take_44 : decode cX10_take 44 = .ok (.bipush 6, 2) := by decide +kernel
theorem dX10_take_46 : decode cX10_take 46 = .ok (.iaload, 1) := by decide +kernel
theorem dX10_take_47 : decode cX10_take 47 = .ok (.if_icmp .ge 24, 3) := by decide +kernel
theorem dX10_take_50 : decode cX10_take 50 = .ok (.aload_n 0, 1) := by decide +kernel
theorem dX10_take_51 : decode cX10_take 51 = .ok (.getfield 37, 3) := by decide +kernel
theorem dX10_take_54 : decode cX10_take 54 = .ok (.bipush 116, 2) := by decide +kernel
theorem dX10_take_56 : decode cX10_take 56 = .ok (.iload_n 2, 1) := by decide +kernel
theorem dX10_take_57 : decode cX10_take 57 = .ok (.iadd, 1) := by decide +kernel
theorem dX10_take_58 : decode cX10_take 58 = .ok (.aload_n 0, 1) := by decide +kernel
theorem dX10_take_59 : decode cX10_take 59 = .ok (.getfield 98, 3) := by decide +kernel
theorem dX10_take_62 : decode cX10_take 62 = .ok (.iload_n 2, 1) := by decide +kernel
theorem dX10_take_63 : decode cX10_take 63 = .ok (.iaload, 1) := by decide +kernel
theorem dX10_take_64 : decode cX10_take 64 = .ok (.iastore, 1) := by decide +kernel
theorem dX10_take_65 : decode cX10_take 65 = .ok (.iinc 2 1, 3) := by decide +kernel
theorem dX10_take_68 : decode cX10_take 68 = .ok (.goto (-29), 3) := by decide +kernel
theorem dX10_take_71 : decode cX10_take 71 = .ok (.iconst 1, 1) := by decide +kernel
theorem dX10_take_72 : decode cX10_take 72 = .ok (.ireturn, 1) := by decide +kernel
theorem dX10_take_73 : decode cX10_take 73 = .ok (.iload_n 1, 1) := by decide +kernel
theorem dX10_take_74 : decode cX10_take 74 = .ok (.iconst 1, 1) := by decide +kernel
theorem dX10_take_75 : decode cX10_take 75 = .ok (.if_icmp .ne 36, 3) := by decide +kernel
theorem dX10_take_78 : decode cX10_take 78 = .ok (.aload_n 0, 1) := by decide +kernel
theorem dX10_take_79 : decode cX10_take 79 = .ok (.getfield 404, 3) := by decide +kernel
theorem dX10_take_82 : decode cX10_take 82 = .ok (.ifCond .eq 29, 3) := by decide +kernel
theorem dX10_take_85 : decode cX10_take 85 = .ok (.aload_n 0, 1) := by decide +kernel
theorem dX10_take_86 : decode cX10_take 86 = .ok (.getfield 85, 3) := by decide +kernel
theorem dX10_take_89 : decode cX10_take 89 = .ok (.aload_n 0, 1) := by decide +kernel
theorem dX10_take_90 : decode cX10_take 90 = .ok (.getfield 37, 3) := by decide +kernel
theorem dX10_take_93 : decode cX10_take 93 = .ok (.sipush 334, 3) := by decide +kernel
theorem dX10_take_96 : decode cX10_take 96 = .ok (.iaload, 1) := by decide +kernel
theorem dX10_take_97 : decode cX10_take 97 = .ok (.if_icmp .ne 14, 3) := by decide +kernel
theorem dX10_take_100 : decode cX10_take 100 = .ok (.aload_n 0, 1) := by decide +kernel
theorem dX10_take_101 : decode cX10_take 101 = .ok (.invokevirtual 281, 3) := by decide +kernel
theorem dX10_take_104 : decode cX10_take 104 = .ok (.ifCond .eq 7, 3) := by decide +kernel
theorem dX10_take_107 : decode cX10_take 107 = .ok (.iconst 1, 1) := by decide +kernel
theorem dX10_take_108 : decode cX10_take 108 = .ok (.goto 4, 3) := by decide +kernel
theorem dX10_take_111 : decode cX10_take 111 = .ok (.iconst 0, 1) := by decide +kernel
theorem dX10_take_112 : decode cX10_take 112 = .ok (.istore_n 2, 1) := by decide +kernel
theorem dX10_take_113 : decode cX10_take 113 = .ok (.iconst 0, 1) := by decide +kernel
theorem dX10_take_114 : decode cX10_take 114 = .ok (.istore_n 3, 1) := by decide +kernel
theorem dX10_take_115 : decode cX10_take 115 = .ok (.iload_n 3, 1) := by decide +kernel
theorem dX10_take_116 : decode cX10_take 116 = .ok (.iconst 4, 1) := by decide +kernel
theorem dX10_take_117 : decode cX10_take 117 = .ok (.if_icmp .ge 37, 3) := by decide +kernel
theorem dX10_take_120 : decode cX10_take 120 = .ok (.iload_n 2, 1) := by decide +kernel
theorem dX10_take_121 : decode cX10_take 121 = .ok (.ifCond .eq 33, 3) := by decide +kernel
theorem dX10_take_124 : decode cX10_take 124 = .ok (.aload_n 0, 1) := by decide +kernel
theorem dX10_take_125 : decode cX10_take 125 = .ok (.getfield 37, 3) := by decide +kernel
theorem dX10_take_128 : decode cX10_take 128 = .ok (.bipush 105, 2) := by decide +kernel
theorem dX10_take_130 : decode cX10_take 130 = .ok (.iload_n 3, 1) := by decide +kernel
theorem dX10_take_131 : decode cX10_take 131 = .ok (.iadd, 1) := by decide +kernel
theorem dX10_take_132 : decode cX10_take 132 = .ok (.iaload, 1) := by decide +kernel
theorem dX10_take_133 : decode cX10_take 133 = .ok (.aload_n 0, 1) := by decide +kernel
theorem dX10_take_134 : decode cX10_take 134 = .ok (.getfield 82, 3) := by decide +kernel
theorem dX10_take_137 : decode cX10_take 137 = .ok (.iload_n 3, 1) := by decide +kernel
theorem dX10_take_138 : decode cX10_take 138 = .ok (.iaload, 1) := by decide +kernel
theorem dX10_take_139 : decode cX10_take 139 = .ok (.if_icmp .ne 7, 3) := by decide +kernel
theorem dX10_take_142 : decode cX10_take 142 = .ok (.iconst 1, 1) := by decide +kernel
theorem dX10_take_143 : decode cX10_take 143 = .ok (.goto 4, 3) := by decide +kernel
theorem dX10_take_146 : decode cX10_take 146 = .ok (.iconst 0, 1) := by decide +kernel
theorem dX10_take_147 : decode cX10_take 147 = .ok (.istore_n 2, 1) := by decide +kernel
theorem dX10_take_148 : decode cX10_take 148 = .ok (.iinc 3 1, 3) := by decide +kernel
theorem dX10_take_151 : decode cX10_take 151 = .ok (.goto (-36), 3) := by decide +kernel
theorem dX10_take_154 : decode cX10_take 154 = .ok (.iload_n 2, 1) := by decide +kernel
theorem dX10_take_155 : decode cX10_take 155 = .ok (.ifCond .ne 5, 3) := by decide +kernel
theorem dX10_take_158 : decode cX10_take 158 = .ok (.iconst 0, 1) := by decide +kernel
theorem dX10_take_159 : decode cX10_take 159 = .ok (.ireturn, 1) := by decide +kernel
theorem dX10_take_160 : decode cX10_take 160 = .ok (.aload_n 0, 1) := by decide +kernel
theorem dX10_take_161 : decode cX10_take 161 = .ok (.invokevirtual 371, 3) := by decide +kernel
theorem dX10_take_164 : decode cX10_take 164 = .ok (.iconst 0, 1) := by decide +kernel
theorem dX10_take_165 : decode cX10_take 165 = .ok (.istore_n 3, 1) := by decide +kernel
theorem dX10_take_166 : decode cX10_take 166 = .ok (.iload_n 3, 1) := by decide +kernel
theorem dX10_take_167 : decode cX10_take 167 = .ok (.iconst 4, 1) := by decide +kernel
theorem dX10_take_168 : decode cX10_take 168 = .ok (.if_icmp .ge 24, 3) := by decide +kernel
theorem dX10_take_171 : decode cX10_take 171 = .ok (.aload_n 0, 1) := by decide +kernel
theorem dX10_take_172 : decode cX10_take 172 = .ok (.getfield 37, 3) := by decide +kernel
theorem dX10_take_175 : decode cX10_take 175 = .ok (.bipush 109, 2) := by decide +kernel
theorem dX10_take_177 : decode cX10_take 177 = .ok (.iload_n 3, 1) := by decide +kernel
theorem dX10_take_178 : decode cX10_take 178 = .ok (.iadd, 1) := by decide +kernel
theorem dX10_take_179 : decode cX10_take 179 = .ok (.aload_n 0, 1) := by decide +kernel
theorem dX10_take_180 : decode cX10_take 180 = .ok (.getfield 79, 3) := by decide +kernel
theorem dX10_take_183 : decode cX10_take 183 = .ok (.iload_n 3, 1) := by decide +kernel
theorem dX10_take_184 : decode cX10_take 184 = .ok (.iaload, 1) := by decide +kernel
theorem dX10_take_185 : decode cX10_take 185 = .ok (.iastore, 1) := by decide +kernel
theorem dX10_take_186 : decode cX10_take 186 = .ok (.iinc 3 1, 3) := by decide +kernel
theorem dX10_take_189 : decode cX10_take 189 = .ok (.goto (-23), 3) := by decide +kernel
theorem dX10_take_192 : decode cX10_take 192 = .ok (.iconst 1, 1) := by decide +kernel
theorem dX10_take_193 : decode cX10_take 193 = .ok (.ireturn, 1) := by decide +kernel
theorem dX10_bits_0 : decode cX10_bits 0 = .ok (.iconst 0, 1) := by decide +kernel
theorem dX10_bits_1 : decode cX10_bits 1 = .ok (.istore_n 1, 1) := by decide +kernel
theorem dX10_bits_2 : decode cX10_bits 2 = .ok (.iload_n 0, 1) := by decide +kernel
theorem dX10_bits_3 : decode cX10_bits 3 = .ok (.istore_n 2, 1) := by decide +kernel
theorem dX10_bits_4 : decode cX10_bits 4 = .ok (.iload_n 2, 1) := by decide +kernel
theorem dX10_bits_5 : decode cX10_bits 5 = .ok (.ifCond .eq 15, 3) := by decide +kernel
theorem dX10_bits_8 : decode cX10_bits 8 = .ok (.iinc 1 1, 3) := by decide +kernel
theorem dX10_bits_11 : decode cX10_bits 11 = .ok (.iload_n 2, 1) := by decide +kernel
theorem dX10_bits_12 : decode cX10_bits 12 = .ok (.iload_n 2, 1) := by decide +kernel
theorem dX10_bits_13 : decode cX10_bits 13 = .ok (.iconst 1, 1) := by decide +kernel
theorem dX10_bits_14 : decode cX10_bits 14 = .ok (.isub, 1) := by decide +kernel
theorem dX10_bits_15 : decode cX10_bits 15 = .ok (.iand, 1) := by decide +kernel
theorem dX10_bits_16 : decode cX10_bits 16 = .ok (.istore_n 2, 1) := by decide +kernel
theorem dX10_bits_17 : decode cX10_bits 17 = .ok (.goto (-13), 3) := by decide +kernel
theorem dX10_bits_20 : decode cX10_bits 20 = .ok (.iload_n 1, 1) := by decide +kernel
theorem dX10_bits_21 : decode cX10_bits 21 = .ok (.ireturn, 1) := by decide +kernel
theorem dX10_timeWith_0 : decode cX10_timeWith 0 = .ok (.aload_n 0, 1) := by decide +kernel
theorem dX10_timeWith_1 : decode cX10_timeWith 1 = .ok (.getfield 37, 3) := by decide +kernel
theorem dX10_timeWith_4 : decode cX10_timeWith 4 = .ok (.iload_n 1, 1) := by decide +kernel
theorem dX10_timeWith_5 : decode cX10_timeWith 5 = .ok (.iaload, 1) := by decide +kernel
theorem dX10_timeWith_6 : decode cX10_timeWith 6 = .ok (.istore_n 3, 1) := by decide +kernel
theorem dX10_timeWith_7 : decode cX10_timeWith 7 = .ok (.aload_n 0, 1) := by decide +kernel
theorem dX10_timeWith_8 : decode cX10_timeWith 8 = .ok (.getfield 37, 3) := by decide +kernel
theorem dX10_timeWith_11 : decode cX10_timeWith 11 = .ok (.iload_n 1, 1) := by decide +kernel
theorem dX10_timeWith_12 : decode cX10_timeWith 12 = .ok (.iload_n 2, 1) := by decide +kernel
theorem dX10_timeWith_13 : decode cX10_timeWith 13 = .ok (.iastore, 1) := by decide +kernel
theorem dX10_timeWith_14 : decode cX10_timeWith 14 = .ok (.aload_n 0, 1) := by decide +kernel
theorem dX10_timeWith_15 : decode cX10_timeWith 15 = .ok (.invokevirtual 368, 3) := by decide +kernel
theorem dX10_timeWith_18 : decode cX10_timeWith 18 = .ok (.istore 4, 2) := by decide +kernel
theorem dX10_timeWith_20 : decode cX10_timeWith 20 = .ok (.aload_n 0, 1) := by decide +kernel
theorem dX10_timeWith_21 : decode cX10_timeWith 21 = .ok (.getfield 37, 3) := by decide +kernel
theorem dX10_timeWith_24 : decode cX10_timeWith 24 = .ok (.iload_n 1, 1) := by decide +kernel
theorem dX10_timeWith_25 : decode cX10_timeWith 25 = .ok (.iload_n 3, 1) := by decide +kernel
theorem dX10_timeWith_26 : decode cX10_timeWith 26 = .ok (.iastore, 1) := by decide +kernel
theorem dX10_timeWith_27 : decode cX10_timeWith 27 = .ok (.iload 4, 2) := by decide +kernel
theorem dX10_timeWith_29 : decode cX10_timeWith 29 = .ok (.ireturn, 1) := by decide +kernel
theorem dX10_less_0 : decode cX10_less 0 = .ok (.iload_n 0, 1) := by decide +kernel
theorem dX10_less_1 : decode cX10_less 1 = .ok (.ifCond .lt 7, 3) := by decide +kernel
theorem dX10_less_4 : decode cX10_less 4 = .ok (.iload_n 1, 1) := by decide +kernel
theorem dX10_less_5 : decode cX10_less 5 = .ok (.ifCond .ge 9, 3) := by decide +kernel
theorem dX10_less_8 : decode cX10_less 8 = .ok (.ldc_w 428, 3) := by decide +kernel
theorem dX10_less_11 : decode cX10_less 11 = .ok (.goto 6, 3) := by decide +kernel
theorem dX10_less_14 : decode cX10_less 14 = .ok (.iload_n 0, 1) := by decide +kernel
theorem dX10_less_15 : decode cX10_less 15 = .ok (.iload_n 1, 1) := by decide +kernel
theorem dX10_less_16 : decode cX10_less 16 = .ok (.isub, 1) := by decide +kernel
theorem dX10_less_17 : decode cX10_less 17 = .ok (.ireturn, 1) := by decide +kernel
theorem dX10_kilo_0 : decode cX10_kilo 0 = .ok (.aload_n 0, 1) := by decide +kernel
theorem dX10_kilo_1 : decode cX10_kilo 1 = .ok (.iconst 0, 1) := by decide +kernel
theorem dX10_kilo_2 : decode cX10_kilo 2 = .ok (.putfield 1, 3) := by decide +kernel
theorem dX10_kilo_5 : decode cX10_kilo 5 = .ok (.aload_n 0, 1) := by decide +kernel
theorem dX10_kilo_6 : decode cX10_kilo 6 = .ok (.invokevirtual 281, 3) := by decide +kernel
theorem dX10_kilo_9 : decode cX10_kilo 9 = .ok (.ifCond .eq 27, 3) := by decide +kernel
theorem dX10_kilo_12 : decode cX10_kilo 12 = .ok (.iload_n 1, 1) := by decide +kernel
theorem dX10_kilo_13 : decode cX10_kilo 13 = .ok (.iconst 1, 1) := by decide +kernel
theorem dX10_kilo_14 : decode cX10_kilo 14 = .ok (.bipush 99, 2) := by decide +kernel
theorem dX10_kilo_16 : decode cX10_kilo 16 = .ok (.invokestatic 211, 3) := by decide +kernel
theorem dX10_kilo_19 : decode cX10_kilo 19 = .ok (.ifCond .eq 17, 3) := by decide +kernel
theorem dX10_kilo_22 : decode cX10_kilo 22 = .ok (.aload_n 0, 1) := by decide +kernel
theorem dX10_kilo_23 : decode cX10_kilo 23 = .ok (.getfield 37, 3) := by decide +kernel
theorem dX10_kilo_26 : decode cX10_kilo 26 = .ok (.bipush 113, 2) := by decide +kernel
theorem dX10_kilo_28 : decode cX10_kilo 28 = .ok (.iaload, 1) := by decide +kernel
theorem dX10_kilo_29 : decode cX10_kilo 29 = .ok (.iload_n 1, 1) := by decide +kernel
theorem dX10_kilo_30 : decode cX10_kilo 30 = .ok (.iadd, 1) := by decide +kernel
theorem dX10_kilo_31 : decode cX10_kilo 31 = .ok (.bipush 99, 2) := by decide +kernel
theorem dX10_kilo_33 : decode cX10_kilo 33 = .ok (.if_icmp .le 7, 3) := by decide +kernel
theorem dX10_kilo_36 : decode cX10_kilo 36 = .ok (.ldc_w 428, 3) := by decide +kernel
theorem dX10_kilo_39 : decode cX10_kilo 39 = .ok (.ireturn, 1) := by decide +kernel
theorem dX10_kilo_40 : decode cX10_kilo 40 = .ok (.aload_n 0, 1) := by decide +kernel
theorem dX10_kilo_41 : decode cX10_kilo 41 = .ok (.invokevirtual 368, 3) := by decide +kernel
theorem dX10_kilo_44 : decode cX10_kilo 44 = .ok (.aload_n 0, 1) := by decide +kernel
theorem dX10_kilo_45 : decode cX10_kilo 45 = .ok (.bipush 113, 2) := by decide +kernel
theorem dX10_kilo_47 : decode cX10_kilo 47 = .ok (.aload_n 0, 1) := by decide +kernel
theorem dX10_kilo_48 : decode cX10_kilo 48 = .ok (.getfield 37, 3) := by decide +kernel
theorem dX10_kilo_51 : decode cX10_kilo 51 = .ok (.bipush 113, 2) := by decide +kernel
theorem dX10_kilo_53 : decode cX10_kilo 53 = .ok (.iaload, 1) := by decide +kernel
theorem dX10_kilo_54 : decode cX10_kilo 54 = .ok (.iload_n 1, 1) := by decide +kernel
theorem dX10_kilo_55 : decode cX10_kilo 55 = .ok (.iadd, 1) := by decide +kernel
theorem dX10_kilo_56 : decode cX10_kilo 56 = .ok (.invokevirtual 429, 3) := by decide +kernel
theorem dX10_kilo_59 : decode cX10_kilo 59 = .ok (.invokestatic 432, 3) := by decide +kernel
theorem dX10_kilo_62 : decode cX10_kilo 62 = .ok (.ireturn, 1) := by decide +kernel
theorem dX10_runners_0 : decode cX10_runners 0 = .ok (.aload_n 0, 1) := by decide +kernel
theorem dX10_runners_1 : decode cX10_runners 1 = .ok (.iconst 0, 1) := by decide +kernel
theorem dX10_runners_2 : decode cX10_runners 2 = .ok (.putfield 1, 3) := by decide +kernel
theorem dX10_runners_5 : decode cX10_runners 5 = .ok (.aload_n 0, 1) := by decide +kernel
theorem dX10_runners_6 : decode cX10_runners 6 = .ok (.invokevirtual 281, 3) := by decide +kernel
theorem dX10_runners_9 : decode cX10_runners 9 = .ok (.ifCond .ne 5, 3) := by decide +kernel
theorem dX10_runners_12 : decode cX10_runners 12 = .ok (.iconst (-1), 1) := by decide +kernel
theorem dX10_runners_13 : decode cX10_runners 13 = .ok (.ireturn, 1) := by decide +kernel
theorem dX10_runners_14 : decode cX10_runners 14 = .ok (.iconst (-1), 1) := by decide +kernel
theorem dX10_runners_15 : decode cX10_runners 15 = .ok (.istore_n 1, 1) := by decide +kernel
theorem dX10_runners_16 : decode cX10_runners 16 = .ok (.ldc_w 394, 3) := by decide +kernel
theorem dX10_runners_19 : decode cX10_runners 19 = .ok (.istore_n 2, 1) := by decide +kernel
theorem dX10_runners_20 : decode cX10_runners 20 = .ok (.iconst 0, 1) := by decide +kernel
theorem dX10_runners_21 : decode cX10_runners 21 = .ok (.istore_n 3, 1) := by decide +kernel
theorem dX10_runners_22 : decode cX10_runners 22 = .ok (.iload_n 3, 1) := by decide +kernel
theorem dX10_runners_23 : decode cX10_runners 23 = .ok (.aload_n 0, 1) := by decide +kernel
theorem dX10_runners_24 : decode cX10_runners 24 = .ok (.getfield 37, 3) := by decide +kernel
theorem dX10_runners_27 : decode cX10_runners 27 = .ok (.bipush 7, 2) := by decide +kernel
theorem dX10_runners_29 : decode cX10_runners 29 = .ok (.iaload, 1) := by decide +kernel
theorem dX10_runners_30 : decode cX10_runners 30 = .ok (.if_icmp .ge 37, 3) := by decide +kernel
theorem dX10_runners_33 : decode cX10_runners 33 = .ok (.aload_n 0, 1) := by decide +kernel
theorem dX10_runners_34 : decode cX10_runners 34 = .ok (.bipush 114, 2) := by decide +kernel
theorem dX10_runners_36 : decode cX10_runners 36 = .ok (.iload_n 3, 1) := by decide +kernel
theorem dX10_runners_37 : decode cX10_runners 37 = .ok (.invokevirtual 429, 3) := by decide +kernel
theorem dX10_runners_40 : decode cX10_runners 40 = .ok (.istore 4, 2) := by decide +kernel
theorem dX10_runners_42 : decode cX10_runners 42 = .ok (.iload 4, 2) := by decide +kernel
theorem dX10_runners_44 : decode cX10_runners 44 = .ok (.ifCond .lt 17, 3) := by decide +kernel
theorem dX10_runners_47 : decode cX10_runners 47 = .ok (.iload 4, 2) := by decide +kernel
theorem dX10_runners_49 : decode cX10_runners 49 = .ok (.iload_n 2, 1) := by decide +kernel
theorem dX10_runners_50 : decode cX10_runners 50 = .ok (.if_icmp .lt 6, 3) := by decide +kernel
theorem dX10_runners_53 : decode cX10_runners 53 = .ok (.goto 8, 3) := by decide +kernel
theorem dX10_runners_56 : decode cX10_runners 56 = .ok (.iload 4, 2) := by decide +kernel
theorem dX10_runners_58 : decode cX10_runners 58 = .ok (.istore_n 2, 1) := by decide +kernel
theorem dX10_runners_59 : decode cX10_runners 59 = .ok (.iload_n 3, 1) := by decide +kernel
theorem dX10_runners_60 : decode cX10_runners 60 = .ok (.istore_n 1, 1) := by decide +kernel
theorem dX10_runners_61 : decode cX10_runners 61 = .ok (.iinc 3 1, 3) := by decide +kernel
theorem dX10_runners_64 : decode cX10_runners 64 = .ok (.goto (-42), 3) := by decide +kernel
theorem dX10_runners_67 : decode cX10_runners 67 = .ok (.iload_n 1, 1) := by decide +kernel
theorem dX10_runners_68 : decode cX10_runners 68 = .ok (.ireturn, 1) := by decide +kernel
theorem dX10_runs_0 : decode cX10_runs 0 = .ok (.aload_n 0, 1) := by decide +kernel
theorem dX10_runs_1 : decode cX10_runs 1 = .ok (.iconst 0, 1) := by decide +kernel
theorem dX10_runs_2 : decode cX10_runs 2 = .ok (.putfield 1, 3) := by decide +kernel
theorem dX10_runs_5 : decode cX10_runs 5 = .ok (.aload_n 0, 1) := by decide +kernel
theorem dX10_runs_6 : decode cX10_runs 6 = .ok (.sipush 940, 3) := by decide +kernel
theorem dX10_runs_9 : decode cX10_runs 9 = .ok (.invokevirtual 248, 3) := by decide +kernel
theorem dX10_runs_12 : decode cX10_runs 12 = .ok (.aload_n 0, 1) := by decide +kernel
theorem dX10_runs_13 : decode cX10_runs 13 = .ok (.invokevirtual 281, 3) := by decide +kernel
theorem dX10_runs_16 : decode cX10_runs 16 = .ok (.ifCond .eq 11, 3) := by decide +kernel
theorem dX10_runs_19 : decode cX10_runs 19 = .ok (.aload_n 0, 1) := by decide +kernel
theorem dX10_runs_20 : decode cX10_runs 20 = .ok (.getfield 18, 3) := by decide +kernel
theorem dX10_runs_23 : decode cX10_runs 23 = .ok (.iconst 4, 1) := by decide +kernel
theorem dX10_runs_24 : decode cX10_runs 24 = .ok (.if_icmp .eq 5, 3) := by decide +kernel
theorem dX10_runs_27 : decode cX10_runs 27 = .ok (.iconst (-1), 1) := by decide +kernel
theorem dX10_runs_28 : decode cX10_runs 28 = .ok (.ireturn, 1) := by decide +kernel
theorem dX10_runs_29 : decode cX10_runs 29 = .ok (.iconst 0, 1) := by decide +kernel
theorem dX10_runs_30 : decode cX10_runs 30 = .ok (.istore_n 1, 1) := by decide +kernel
theorem dX10_runs_31 : decode cX10_runs 31 = .ok (.iconst 0, 1) := by decide +kernel
theorem dX10_runs_32 : decode cX10_runs 32 = .ok (.istore_n 2, 1) := by decide +kernel
theorem dX10_runs_33 : decode cX10_runs 33 = .ok (.iload_n 2, 1) := by decide +kernel
theorem dX10_runs_34 : decode cX10_runs 34 = .ok (.iconst 4, 1) := by decide +kernel
theorem dX10_runs_35 : decode cX10_runs 35 = .ok (.if_icmp .ge 49, 3) := by decide +kernel
theorem dX10_runs_38 : decode cX10_runs 38 = .ok (.aload_n 0, 1) := by decide +kernel
theorem dX10_runs_39 : decode cX10_runs 39 = .ok (.iload_n 2, 1) := by decide +kernel
theorem dX10_runs_40 : decode cX10_runs 40 = .ok (.invokevirtual 435, 3) := by decide +kernel
theorem dX10_runs_43 : decode cX10_runs 43 = .ok (.iconst 1, 1) := by decide +kernel
theorem dX10_runs_44 : decode cX10_runs 44 = .ok (.bipush 60, 2) := by decide +kernel
theorem dX10_runs_46 : decode cX10_runs 46 = .ok (.invokestatic 211, 3) := by decide +kernel
theorem dX10_runs_49 : decode cX10_runs 49 = .ok (.ifCond .eq 17, 3) := by decide +kernel
theorem dX10_runs_52 : decode cX10_runs 52 = .ok (.aload_n 0, 1) := by decide +kernel
theorem dX10_runs_53 : decode cX10_runs 53 = .ok (.bipush 115, 2) := by decide +kernel
theorem dX10_runs_55 : decode cX10_runs 55 = .ok (.aload_n 0, 1) := by decide +kernel
theorem dX10_runs_56 : decode cX10_runs 56 = .ok (.iload_n 2, 1) := by decide +kernel
theorem dX10_runs_57 : decode cX10_runs 57 = .ok (.invokevirtual 435, 3) := by decide +kernel
theorem dX10_runs_60 : decode cX10_runs 60 = .ok (.invokevirtual 429, 3) := by decide +kernel
theorem dX10_runs_63 : decode cX10_runs 63 = .ok (.goto 4, 3) := by decide +kernel
theorem dX10_runs_66 : decode cX10_runs 66 = .ok (.iconst (-1), 1) := by decide +kernel
theorem dX10_runs_67 : decode cX10_runs 67 = .ok (.istore_n 3, 1) := by decide +kernel
theorem dX10_runs_68 : decode cX10_runs 68 = .ok (.iload_n 3, 1) := by decide +kernel
theorem dX10_runs_69 : decode cX10_runs 69 = .ok (.ifCond .ge 5, 3) := by decide +kernel
theorem dX10_runs_72 : decode cX10_runs 72 = .ok (.iconst (-1), 1) := by decide +kernel
theorem dX10_runs_73 : decode cX10_runs 73 = .ok (.ireturn, 1) := by decide +kernel
theorem dX10_runs_74 : decode cX10_runs 74 = .ok (.iload_n 1, 1) := by decide +kernel
theorem dX10_runs_75 : decode cX10_runs 75 = .ok (.iload_n 3, 1) := by decide +kernel
theorem dX10_runs_76 : decode cX10_runs 76 = .ok (.iadd, 1) := by decide +kernel
theorem dX10_runs_77 : decode cX10_runs 77 = .ok (.istore_n 1, 1) := by decide +kernel
theorem dX10_runs_78 : decode cX10_runs 78 = .ok (.iinc 2 1, 3) := by decide +kernel
theorem dX10_runs_81 : decode cX10_runs 81 = .ok (.goto (-48), 3) := by decide +kernel
theorem dX10_runs_84 : decode cX10_runs 84 = .ok (.iload_n 1, 1) := by decide +kernel
theorem dX10_runs_85 : decode cX10_runs 85 = .ok (.ireturn, 1) := by decide +kernel
theorem dX10_worth_0 : decode cX10_worth 0 = .ok (.aload_n 0, 1) := by decide +kernel
theorem dX10_worth_1 : decode cX10_worth 1 = .ok (.iconst 0, 1) := by decide +kernel
theorem dX10_worth_2 : decode cX10_worth 2 = .ok (.putfield 1, 3) := by decide +kernel
theorem dX10_worth_5 : decode cX10_worth 5 = .ok (.aload_n 0, 1) := by decide +kernel
theorem dX10_worth_6 : decode cX10_worth 6 = .ok (.invokevirtual 281, 3) := by decide +kernel
theorem dX10_worth_9 : decode cX10_worth 9 = .ok (.ifCond .eq 23, 3) := by decide +kernel
theorem dX10_worth_12 : decode cX10_worth 12 = .ok (.iload_n 1, 1) := by decide +kernel
theorem dX10_worth_13 : decode cX10_worth 13 = .ok (.iconst 1, 1) := by decide +kernel
theorem dX10_worth_14 : decode cX10_worth 14 = .ok (.bipush 60, 2) := by decide +kernel
theorem dX10_worth_16 : decode cX10_worth 16 = .ok (.invokestatic 211, 3) := by decide +kernel
theorem dX10_worth_19 : decode cX10_worth 19 = .ok (.ifCond .eq 13, 3) := by decide +kernel
theorem dX10_worth_22 : decode cX10_worth 22 = .ok (.iload_n 2, 1) := by decide +kernel
theorem dX10_worth_23 : decode cX10_worth 23 = .ok (.iconst 1, 1) := by decide +kernel
theorem dX10_worth_24 : decode cX10_worth 24 = .ok (.bipush 60, 2) := by decide +kernel
theorem dX10_worth_26 : decode cX10_worth 26 = .ok (.invokestatic 211, 3) := by decide +kernel
theorem dX10_worth_29 : decode cX10_worth 29 = .ok (.ifCond .ne 7, 3) := by decide +kernel
theorem dX10_worth_32 : decode cX10_worth 32 = .ok (.ldc_w 428, 3) := by decide +kernel
theorem dX10_worth_35 : decode cX10_worth 35 = .ok (.ireturn, 1) := by decide +kernel
theorem dX10_worth_36 : decode cX10_worth 36 = .ok (.aload_n 0, 1) := by decide +kernel
theorem dX10_worth_37 : decode cX10_worth 37 = .ok (.bipush 115, 2) := by decide +kernel
theorem dX10_worth_39 : decode cX10_worth 39 = .ok (.iload_n 2, 1) := by decide +kernel
theorem dX10_worth_40 : decode cX10_worth 40 = .ok (.invokevirtual 429, 3) := by decide +kernel
theorem dX10_worth_43 : decode cX10_worth 43 = .ok (.aload_n 0, 1) := by decide +kernel
theorem dX10_worth_44 : decode cX10_worth 44 = .ok (.bipush 115, 2) := by decide +kernel
theorem dX10_worth_46 : decode cX10_worth 46 = .ok (.iload_n 1, 1) := by decide +kernel
theorem dX10_worth_47 : decode cX10_worth 47 = .ok (.invokevirtual 429, 3) := by decide +kernel
theorem dX10_worth_50 : decode cX10_worth 50 = .ok (.invokestatic 432, 3) := by decide +kernel
theorem dX10_worth_53 : decode cX10_worth 53 = .ok (.ireturn, 1) := by decide +kernel
theorem dX10_keep_0 : decode cX10_keep 0 = .ok (.aload_n 0, 1) := by decide +kernel
theorem dX10_keep_1 : decode cX10_keep 1 = .ok (.iconst 0, 1) := by decide +kernel
theorem dX10_keep_2 : decode cX10_keep 2 = .ok (.putfield 1, 3) := by decide +kernel
theorem dX10_keep_5 : decode cX10_keep 5 = .ok (.aload_n 0, 1) := by decide +kernel
theorem dX10_keep_6 : decode cX10_keep 6 = .ok (.invokevirtual 281, 3) := by decide +kernel
theorem dX10_keep_9 : decode cX10_keep 9 = .ok (.ifCond .ne 5, 3) := by decide +kernel
theorem dX10_keep_12 : decode cX10_keep 12 = .ok (.iconst 0, 1) := by decide +kernel
theorem dX10_keep_13 : decode cX10_keep 13 = .ok (.ireturn, 1) := by decide +kernel
theorem dX10_keep_14 : decode cX10_keep 14 = .ok (.aload_n 0, 1) := by decide +kernel
theorem dX10_keep_15 : decode cX10_keep 15 = .ok (.getfield 37, 3) := by decide +kernel
theorem dX10_keep_18 : decode cX10_keep 18 = .ok (.sipush 128, 3) := by decide +kernel
theorem dX10_keep_21 : decode cX10_keep 21 = .ok (.iconst 1, 1) := by decide +kernel
theorem dX10_keep_22 : decode cX10_keep 22 = .ok (.iastore, 1) := by decide +kernel
theorem dX10_keep_23 : decode cX10_keep 23 = .ok (.iconst 0, 1) := by decide +kernel
theorem dX10_keep_24 : decode cX10_keep 24 = .ok (.istore_n 1, 1) := by decide +kernel
theorem dX10_keep_25 : decode cX10_keep 25 = .ok (.iload_n 1, 1) := by decide +kernel
theorem dX10_keep_26 : decode cX10_keep 26 = .ok (.bipush 24, 2) := by decide +kernel
theorem dX10_keep_28 : decode cX10_keep 28 = .ok (.if_icmp .ge 28, 3) := by decide +kernel
theorem dX10_keep_31 : decode cX10_keep 31 = .ok (.aload_n 0, 1) := by decide +kernel
theorem dX10_keep_32 : decode cX10_keep 32 = .ok (.getfield 37, 3) := by decide +kernel
theorem dX10_keep_35 : decode cX10_keep 35 = .ok (.sipush 129, 3) := by decide +kernel
theorem dX10_keep_38 : decode cX10_keep 38 = .ok (.iload_n 1, 1) := by decide +kernel
theorem dX10_keep_39 : decode cX10_keep 39 = .ok (.iadd, 1) := by decide +kernel
theorem dX10_keep_40 : decode cX10_keep 40 = .ok (.aload_n 0, 1) := by decide +kernel
theorem dX10_keep_41 : decode cX10_keep 41 = .ok (.getfield 37, 3) := by decide +kernel
theorem dX10_keep_44 : decode cX10_keep 44 = .ok (.bipush 104, 2) := by decide +kernel
theorem dX10_keep_46 : decode cX10_keep 46 = .ok (.iload_n 1, 1) := by decide +kernel
theorem dX10_keep_47 : decode cX10_keep 47 = .ok (.iadd, 1) := by decide +kernel
theorem dX10_keep_48 : decode cX10_keep 48 = .ok (.iaload, 1) := by decide +kernel
theorem dX10_keep_49 : decode cX10_keep 49 = .ok (.iastore, 1) := by decide +kernel
theorem dX10_keep_50 : decode cX10_keep 50 = .ok (.iinc 1 1, 3) := by decide +kernel
theorem dX10_keep_53 : decode cX10_keep 53 = .ok (.goto (-28), 3) := by decide +kernel
theorem dX10_keep_56 : decode cX10_keep 56 = .ok (.iconst 1, 1) := by decide +kernel
theorem dX10_keep_57 : decode cX10_keep 57 = .ok (.ireturn, 1) := by decide +kernel
theorem dX10_lost_0 : decode cX10_lost 0 = .ok (.aload_n 0, 1) := by decide +kernel
theorem dX10_lost_1 : decode cX10_lost 1 = .ok (.iconst 0, 1) := by decide +kernel
theorem dX10_lost_2 : decode cX10_lost 2 = .ok (.putfield 1, 3) := by decide +kernel
theorem dX10_lost_5 : decode cX10_lost 5 = .ok (.aload_n 0, 1) := by decide +kernel
theorem dX10_lost_6 : decode cX10_lost 6 = .ok (.invokevirtual 281, 3) := by decide +kernel
theorem dX10_lost_9 : decode cX10_lost 9 = .ok (.ifCond .eq 23, 3) := by decide +kernel
theorem dX10_lost_12 : decode cX10_lost 12 = .ok (.aload_n 0, 1) := by decide +kernel
theorem dX10_lost_13 : decode cX10_lost 13 = .ok (.getfield 37, 3) := by decide +kernel
theorem dX10_lost_16 : decode cX10_lost 16 = .ok (.sipush 128, 3) := by decide +kernel
theorem dX10_lost_19 : decode cX10_lost 19 = .ok (.iaload, 1) := by decide +kernel
theorem dX10_lost_20 : decode cX10_lost 20 = .ok (.ifCond .eq 12, 3) := by decide +kernel
theorem dX10_lost_23 : decode cX10_lost 23 = .ok (.iload_n 1, 1) := by decide +kernel
theorem dX10_lost_24 : decode cX10_lost 24 = .ok (.iconst 0, 1) := by decide +kernel
theorem dX10_lost_25 : decode cX10_lost 25 = .ok (.iconst 3, 1) := by decide +kernel
theorem dX10_lost_26 : decode cX10_lost 26 = .ok (.invokestatic 211, 3) := by decide +kernel
theorem dX10_lost_29 : decode cX10_lost 29 = .ok (.ifCond .ne 7, 3) := by decide +kernel
theorem dX10_lost_32 : decode cX10_lost 32 = .ok (.ldc_w 428, 3) := by decide +kernel
theorem dX10_lost_35 : decode cX10_lost 35 = .ok (.ireturn, 1) := by decide +kernel
theorem dX10_lost_36 : decode cX10_lost 36 = .ok (.aload_n 0, 1) := by decide +kernel
theorem dX10_lost_37 : decode cX10_lost 37 = .ok (.invokevirtual 368, 3) := by decide +kernel
theorem dX10_lost_40 : decode cX10_lost 40 = .ok (.istore_n 2, 1) := by decide +kernel
theorem dX10_lost_41 : decode cX10_lost 41 = .ok (.aload_n 0, 1) := by decide +kernel
theorem dX10_lost_42 : decode cX10_lost 42 = .ok (.getfield 314, 3) := by decide +kernel
theorem dX10_lost_45 : decode cX10_lost 45 = .ok (.istore_n 3, 1) := by decide +kernel
theorem dX10_lost_46 : decode cX10_lost 46 = .ok (.aload_n 0, 1) := by decide +kernel
theorem dX10_lost_47 : decode cX10_lost 47 = .ok (.getfield 337, 3) := by decide +kernel
theorem dX10_lost_50 : decode cX10_lost 50 = .ok (.istore 4, 2) := by decide +kernel
theorem dX10_lost_52 : decode cX10_lost 52 = .ok (.aload_n 0, 1) := by decide +kernel
theorem dX10_lost_53 : decode cX10_lost 53 = .ok (.invokevirtual 419, 3) := by decide +kernel
theorem dX10_lost_56 : decode cX10_lost 56 = .ok (.iconst 0, 1) := by decide +kernel
theorem dX10_lost_57 : decode cX10_lost 57 = .ok (.istore 5, 2) := by decide +kernel
theorem dX10_lost_59 : decode cX10_lost 59 = .ok (.iload 5, 2) := by decide +kernel
theorem dX10_lost_61 : decode cX10_lost 61 = .ok (.bipush 24, 2) := by decide +kernel
theorem dX10_lost_63 : decode cX10_lost 63 = .ok (.if_icmp .ge 30, 3) := by decide +kernel
theorem dX10_lost_66 : decode cX10_lost 66 = .ok (.aload_n 0, 1) := by decide +kernel
theorem dX10_lost_67 : decode cX10_lost 67 = .ok (.getfield 37, 3) := by decide +kernel
theorem dX10_lost_70 : decode cX10_lost 70 = .ok (.bipush 104, 2) := by decide +kernel
theorem dX10_lost_72 : decode cX10_lost 72 = .ok (.iload 5, 2) := by decide +kernel
theorem dX10_lost_74 : decode cX10_lost 74 = .ok (.iadd, 1) := by decide +kernel
theorem dX10_lost_75 : decode cX10_lost 75 = .ok (.aload_n 0, 1) := by decide +kernel
theorem dX10_lost_76 : decode cX10_lost 76 = .ok (.getfield 37, 3) := by decide +kernel
theorem dX10_lost_79 : decode cX10_lost 79 = .ok (.sipush 129, 3) := by decide +kernel
theorem dX10_lost_82 : decode cX10_lost 82 = .ok (.iload 5, 2) := by decide +kernel
theorem dX10_lost_84 : decode cX10_lost 84 = .ok (.iadd, 1) := by decide +kernel
theorem dX10_lost_85 : decode cX10_lost 85 = .ok (.iaload, 1) := by decide +kernel
theorem dX10_lost_86 : decode cX10_lost 86 = .ok (.iastore, 1) := by decide +kernel
theorem dX10_lost_87 : decode cX10_lost 87 = .ok (.iinc 5 1, 3) := by decide +kernel
theorem dX10_lost_90 : decode cX10_lost 90 = .ok (.goto (-31), 3) := by decide +kernel
theorem dX10_lost_93 : decode cX10_lost 93 = .ok (.aload_n 0, 1) := by decide +kernel
theorem dX10_lost_94 : decode cX10_lost 94 = .ok (.invokevirtual 368, 3) := by decide +kernel
theorem dX10_lost_97 : decode cX10_lost 97 = .ok (.istore 5, 2) := by decide +kernel
theorem dX10_lost_99 : decode cX10_lost 99 = .ok (.aload_n 0, 1) := by decide +kernel
theorem dX10_lost_100 : decode cX10_lost 100 = .ok (.getfield 314, 3) := by decide +kernel
theorem dX10_lost_103 : decode cX10_lost 103 = .ok (.istore 6, 2) := by decide +kernel
theorem dX10_lost_105 : decode cX10_lost 105 = .ok (.aload_n 0, 1) := by decide +kernel
theorem dX10_lost_106 : decode cX10_lost 106 = .ok (.iload 4, 2) := by decide +kernel
theorem dX10_lost_108 : decode cX10_lost 108 = .ok (.aload_n 0, 1) := by decide +kernel
theorem dX10_lost_109 : decode cX10_lost 109 = .ok (.invokevirtual 343, 3) := by decide +kernel
theorem dX10_lost_112 : decode cX10_lost 112 = .ok (.invokevirtual 365, 3) := by decide +kernel
theorem dX10_lost_115 : decode cX10_lost 115 = .ok (.istore 7, 2) := by decide +kernel
theorem dX10_lost_117 : decode cX10_lost 117 = .ok (.aload_n 0, 1) := by decide +kernel
theorem dX10_lost_118 : decode cX10_lost 118 = .ok (.invokevirtual 425, 3) := by decide +kernel
theorem dX10_lost_121 : decode cX10_lost 121 = .ok (.iload_n 2, 1) := by decide +kernel
theorem dX10_lost_122 : decode cX10_lost 122 = .ok (.ifCond .lt 13, 3) := by decide +kernel
theorem dX10_lost_125 : decode cX10_lost 125 = .ok (.iload 5, 2) := by decide +kernel
theorem dX10_lost_127 : decode cX10_lost 127 = .ok (.ifCond .lt 8, 3) := by decide +kernel
theorem dX10_lost_130 : decode cX10_lost 130 = .ok (.iload 7, 2) := by decide +kernel
theorem dX10_lost_132 : decode cX10_lost 132 = .ok (.ifCond .ge 7, 3) := by decide +kernel
theorem dX10_lost_135 : decode cX10_lost 135 = .ok (.ldc_w 428, 3) := by decide +kernel
theorem dX10_lost_138 : decode cX10_lost 138 = .ok (.ireturn, 1) := by decide +kernel
theorem dX10_lost_139 : decode cX10_lost 139 = .ok (.iload_n 2, 1) := by decide +kernel
theorem dX10_lost_140 : decode cX10_lost 140 = .ok (.iload 5, 2) := by decide +kernel
theorem dX10_lost_142 : decode cX10_lost 142 = .ok (.isub, 1) := by decide +kernel
theorem dX10_lost_143 : decode cX10_lost 143 = .ok (.istore 8, 2) := by decide +kernel
theorem dX10_lost_145 : decode cX10_lost 145 = .ok (.iload_n 3, 1) := by decide +kernel
theorem dX10_lost_146 : decode cX10_lost 146 = .ok (.iload 6, 2) := by decide +kernel
theorem dX10_lost_148 : decode cX10_lost 148 = .ok (.isub, 1) := by decide +kernel
theorem dX10_lost_149 : decode cX10_lost 149 = .ok (.istore 9, 2) := by decide +kernel
theorem dX10_lost_151 : decode cX10_lost 151 = .ok (.iload 7, 2) := by decide +kernel
theorem dX10_lost_153 : decode cX10_lost 153 = .ok (.iload 5, 2) := by decide +kernel
theorem dX10_lost_155 : decode cX10_lost 155 = .ok (.iload 6, 2) := by decide +kernel
theorem dX10_lost_157 : decode cX10_lost 157 = .ok (.isub, 1) := by decide +kernel
theorem dX10_lost_158 : decode cX10_lost 158 = .ok (.isub, 1) := by decide +kernel
theorem dX10_lost_159 : decode cX10_lost 159 = .ok (.istore 10, 2) := by decide +kernel
theorem dX10_lost_161 : decode cX10_lost 161 = .ok (.iload_n 1, 1) := by decide +kernel
theorem dX10_lost_162 : decode cX10_lost 162 = .ok (.ifCond .ne 8, 3) := by decide +kernel
theorem dX10_lost_165 : decode cX10_lost 165 = .ok (.iload 9, 2) := by decide +kernel
theorem dX10_lost_167 : decode cX10_lost 167 = .ok (.goto 31, 3) := by decide +kernel
theorem dX10_lost_170 : decode cX10_lost 170 = .ok (.iload_n 1, 1) := by decide +kernel
theorem dX10_lost_171 : decode cX10_lost 171 = .ok (.iconst 1, 1) := by decide +kernel
theorem dX10_lost_172 : decode cX10_lost 172 = .ok (.if_icmp .ne 8, 3) := by decide +kernel
theorem dX10_lost_175 : decode cX10_lost 175 = .ok (.iload 10, 2) := by decide +kernel
theorem dX10_lost_177 : decode cX10_lost 177 = .ok (.goto 21, 3) := by decide +kernel
theorem dX10_lost_180 : decode cX10_lost 180 = .ok (.iload_n 1, 1) := by decide +kernel
theorem dX10_lost_181 : decode cX10_lost 181 = .ok (.iconst 2, 1) := by decide +kernel
theorem dX10_lost_182 : decode cX10_lost 182 = .ok (.if_icmp .ne 14, 3) := by decide +kernel
theorem dX10_lost_185 : decode cX10_lost 185 = .ok (.iload 8, 2) := by decide +kernel
theorem dX10_lost_187 : decode cX10_lost 187 = .ok (.iload 9, 2) := by decide +kernel
theorem dX10_lost_189 : decode cX10_lost 189 = .ok (.isub, 1) := by decide +kernel
theorem dX10_lost_190 : decode cX10_lost 190 = .ok (.iload 10, 2) := by decide +kernel
theorem dX10_lost_192 : decode cX10_lost 192 = .ok (.isub, 1) := by decide +kernel
theorem dX10_lost_193 : decode cX10_lost 193 = .ok (.goto 5, 3) := by decide +kernel
theorem dX10_lost_196 : decode cX10_lost 196 = .ok (.iload 8, 2) := by decide +kernel
theorem dX10_lost_198 : decode cX10_lost 198 = .ok (.ireturn, 1) := by decide +kernel
theorem dX10_touch_0 : decode cX10_touch 0 = .ok (.aload_n 0, 1) := by decide +kernel
theorem dX10_touch_1 : decode cX10_touch 1 = .ok (.iconst 0, 1) := by decide +kernel
theorem dX10_touch_2 : decode cX10_touch 2 = .ok (.putfield 1, 3) := by decide +kernel
theorem dX10_touch_5 : decode cX10_touch 5 = .ok (.aload_n 0, 1) := by decide +kernel
theorem dX10_touch_6 : decode cX10_touch 6 = .ok (.invokevirtual 281, 3) := by decide +kernel
theorem dX10_touch_9 : decode cX10_touch 9 = .ok (.ifCond .eq 21, 3) := by decide +kernel
theorem dX10_touch_12 : decode cX10_touch 12 = .ok (.aload_n 0, 1) := by decide +kernel
theorem dX10_touch_13 : decode cX10_touch 13 = .ok (.iload_n 1, 1) := by decide +kernel
theorem dX10_touch_14 : decode cX10_touch 14 = .ok (.invokevirtual 292, 3) := by decide +kernel
theorem dX10_touch_17 : decode cX10_touch 17 = .ok (.ifCond .eq 13, 3) := by decide +kernel
theorem dX10_touch_20 : decode cX10_touch 20 = .ok (.iload_n 2, 1) := by decide +kernel
theorem dX10_touch_21 : decode cX10_touch 21 = .ok (.iconst 1, 1) := by decide +kernel
theorem dX10_touch_22 : decode cX10_touch 22 = .ok (.bipush 99, 2) := by decide +kernel
theorem dX10_touch_24 : decode cX10_touch 24 = .ok (.invokestatic 211, 3) := by decide +kernel
theorem dX10_touch_27 : decode cX10_touch 27 = .ok (.ifCond .ne 7, 3) := by decide +kernel
theorem dX10_touch_30 : decode cX10_touch 30 = .ok (.ldc_w 428, 3) := by decide +kernel
theorem dX10_touch_33 : decode cX10_touch 33 = .ok (.ireturn, 1) := by decide +kernel
theorem dX10_touch_34 : decode cX10_touch 34 = .ok (.aload_n 0, 1) := by decide +kernel
theorem dX10_touch_35 : decode cX10_touch 35 = .ok (.invokevirtual 368, 3) := by decide +kernel
theorem dX10_touch_38 : decode cX10_touch 38 = .ok (.istore_n 3, 1) := by decide +kernel
theorem dX10_touch_39 : decode cX10_touch 39 = .ok (.aload_n 0, 1) := by decide +kernel
theorem dX10_touch_40 : decode cX10_touch 40 = .ok (.iload_n 1, 1) := by decide +kernel
theorem dX10_touch_41 : decode cX10_touch 41 = .ok (.putfield 66, 3) := by decide +kernel
theorem dX10_touch_44 : decode cX10_touch 44 = .ok (.aload_n 0, 1) := by decide +kernel
theorem dX10_touch_45 : decode cX10_touch 45 = .ok (.iload_n 2, 1) := by decide +kernel
theorem dX10_touch_46 : decode cX10_touch 46 = .ok (.putfield 362, 3) := by decide +kernel
theorem dX10_touch_49 : decode cX10_touch 49 = .ok (.aload_n 0, 1) := by decide +kernel
theorem dX10_touch_50 : decode cX10_touch 50 = .ok (.invokevirtual 368, 3) := by decide +kernel
theorem dX10_touch_53 : decode cX10_touch 53 = .ok (.istore 4, 2) := by decide +kernel
theorem dX10_touch_55 : decode cX10_touch 55 = .ok (.aload_n 0, 1) := by decide +kernel
theorem dX10_touch_56 : decode cX10_touch 56 = .ok (.iconst (-1), 1) := by decide +kernel
theorem dX10_touch_57 : decode cX10_touch 57 = .ok (.putfield 66, 3) := by decide +kernel
theorem dX10_touch_60 : decode cX10_touch 60 = .ok (.iload 4, 2) := by decide +kernel
theorem dX10_touch_62 : decode cX10_touch 62 = .ok (.iload_n 3, 1) := by decide +kernel
theorem dX10_touch_63 : decode cX10_touch 63 = .ok (.invokestatic 432, 3) := by decide +kernel
theorem dX10_touch_66 : decode cX10_touch 66 = .ok (.ireturn, 1) := by decide +kernel
theorem dX10_totalBy_0 : decode cX10_totalBy 0 = .ok (.aload_n 0, 1) := by decide +kernel
theorem dX10_totalBy_1 : decode cX10_totalBy 1 = .ok (.iload_n 1, 1) := by decide +kernel
theorem dX10_totalBy_2 : decode cX10_totalBy 2 = .ok (.putfield 304, 3) := by decide +kernel
theorem dX10_totalBy_5 : decode cX10_totalBy 5 = .ok (.aload_n 0, 1) := by decide +kernel
theorem dX10_totalBy_6 : decode cX10_totalBy 6 = .ok (.iconst 1, 1) := by decide +kernel
theorem dX10_totalBy_7 : decode cX10_totalBy 7 = .ok (.putfield 330, 3) := by decide +kernel
theorem dX10_totalBy_10 : decode cX10_totalBy 10 = .ok (.aload_n 0, 1) := by decide +kernel
theorem dX10_totalBy_11 : decode cX10_totalBy 11 = .ok (.invokevirtual 368, 3) := by decide +kernel
theorem dX10_totalBy_14 : decode cX10_totalBy 14 = .ok (.istore_n 2, 1) := by decide +kernel
theorem dX10_totalBy_15 : decode cX10_totalBy 15 = .ok (.aload_n 0, 1) := by decide +kernel
theorem dX10_totalBy_16 : decode cX10_totalBy 16 = .ok (.iconst 0, 1) := by decide +kernel
theorem dX10_totalBy_17 : decode cX10_totalBy 17 = .ok (.putfield 330, 3) := by decide +kernel
theorem dX10_totalBy_20 : decode cX10_totalBy 20 = .ok (.iload_n 2, 1) := by decide +kernel
theorem dX10_totalBy_21 : decode cX10_totalBy 21 = .ok (.ireturn, 1) := by decide +kernel
theorem dX10_drawn_0 : decode cX10_drawn 0 = .ok (.aload_n 0, 1) := by decide +kernel
theorem dX10_drawn_1 : decode cX10_drawn 1 = .ok (.iconst 0, 1) := by decide +kernel
theorem dX10_drawn_2 : decode cX10_drawn 2 = .ok (.putfield 1, 3) := by decide +kernel
theorem dX10_drawn_5 : decode cX10_drawn 5 = .ok (.aload_n 0, 1) := by decide +kernel
theorem dX10_drawn_6 : decode cX10_drawn 6 = .ok (.invokevirtual 281, 3) := by decide +kernel
theorem dX10_drawn_9 : decode cX10_drawn 9 = .ok (.ifCond .eq 11, 3) := by decide +kernel
theorem dX10_drawn_12 : decode cX10_drawn 12 = .ok (.aload_n 0, 1) := by decide +kernel
theorem dX10_drawn_13 : decode cX10_drawn 13 = .ok (.iload_n 1, 1) := by decide +kernel
theorem dX10_drawn_14 : decode cX10_drawn 14 = .ok (.invokevirtual 438, 3) := by decide +kernel
theorem dX10_drawn_17 : decode cX10_drawn 17 = .ok (.goto 4, 3) := by decide +kernel
theorem dX10_drawn_20 : decode cX10_drawn 20 = .ok (.iconst (-1), 1) := by decide +kernel
theorem dX10_drawn_21 : decode cX10_drawn 21 = .ok (.ireturn, 1) := by decide +kernel
theorem dX10_odds_0 : decode cX10_odds 0 = .ok (.aload_n 0, 1) := by decide +kernel
theorem dX10_odds_1 : decode cX10_odds 1 = .ok (.iconst 0, 1) := by decide +kernel
theorem dX10_odds_2 : decode cX10_odds 2 = .ok (.putfield 1, 3) := by decide +kernel
theorem dX10_odds_5 : decode cX10_odds 5 = .ok (.aload_n 0, 1) := by decide +kernel
theorem dX10_odds_6 : decode cX10_odds 6 = .ok (.invokevirtual 281, 3) := by decide +kernel
theorem dX10_odds_9 : decode cX10_odds 9 = .ok (.ifCond .eq 13, 3) := by decide +kernel
theorem dX10_odds_12 : decode cX10_odds 12 = .ok (.iload_n 1, 1) := by decide +kernel
theorem dX10_odds_13 : decode cX10_odds 13 = .ok (.iconst 1, 1) := by decide +kernel
theorem dX10_odds_14 : decode cX10_odds 14 = .ok (.bipush 60, 2) := by decide +kernel
theorem dX10_odds_16 : decode cX10_odds 16 = .ok (.invokestatic 211, 3) := by decide +kernel
theorem dX10_odds_19 : decode cX10_odds 19 = .ok (.ifCond .ne 5, 3) := by decide +kernel
theorem dX10_odds_22 : decode cX10_odds 22 = .ok (.iconst (-1), 1) := by decide +kernel
theorem dX10_odds_23 : decode cX10_odds 23 = .ok (.ireturn, 1) := by decide +kernel
theorem dX10_odds_24 : decode cX10_odds 24 = .ok (.iconst 0, 1) := by decide +kernel
theorem dX10_odds_25 : decode cX10_odds 25 = .ok (.istore 4, 2) := by decide +kernel
theorem dX10_odds_27 : decode cX10_odds 27 = .ok (.iconst 0, 1) := by decide +kernel
theorem dX10_odds_28 : decode cX10_odds 28 = .ok (.istore 5, 2) := by decide +kernel
theorem dX10_odds_30 : decode cX10_odds 30 = .ok (.iload 5, 2) := by decide +kernel
theorem dX10_odds_32 : decode cX10_odds 32 = .ok (.iload_n 1, 1) := by decide +kernel
theorem dX10_odds_33 : decode cX10_odds 33 = .ok (.if_icmp .ge 40, 3) := by decide +kernel
theorem dX10_odds_36 : decode cX10_odds 36 = .ok (.aload_n 0, 1) := by decide +kernel
theorem dX10_odds_37 : decode cX10_odds 37 = .ok (.iload_n 2, 1) := by decide +kernel
theorem dX10_odds_38 : decode cX10_odds 38 = .ok (.iload 5, 2) := by decide +kernel
theorem dX10_odds_40 : decode cX10_odds 40 = .ok (.iadd, 1) := by decide +kernel
theorem dX10_odds_41 : decode cX10_odds 41 = .ok (.invokevirtual 438, 3) := by decide +kernel
theorem dX10_odds_44 : decode cX10_odds 44 = .ok (.istore 6, 2) := by decide +kernel
theorem dX10_odds_46 : decode cX10_odds 46 = .ok (.iload 4, 2) := by decide +kernel
theorem dX10_odds_48 : decode cX10_odds 48 = .ok (.iload 6, 2) := by decide +kernel
theorem dX10_odds_50 : decode cX10_odds 50 = .ok (.ifCond .lt 13, 3) := by decide +kernel
theorem dX10_odds_53 : decode cX10_odds 53 = .ok (.iload 6, 2) := by decide +kernel
theorem dX10_odds_55 : decode cX10_odds 55 = .ok (.iload_n 3, 1) := by decide +kernel
theorem dX10_odds_56 : decode cX10_odds 56 = .ok (.if_icmp .ge 7, 3) := by decide +kernel
theorem dX10_odds_59 : decode cX10_odds 59 = .ok (.iconst 1, 1) := by decide +kernel
theorem dX10_odds_60 : decode cX10_odds 60 = .ok (.goto 4, 3) := by decide +kernel
theorem dX10_odds_63 : decode cX10_odds 63 = .ok (.iconst 0, 1) := by decide +kernel
theorem dX10_odds_64 : decode cX10_odds 64 = .ok (.iadd, 1) := by decide +kernel
theorem dX10_odds_65 : decode cX10_odds 65 = .ok (.istore 4, 2) := by decide +kernel
theorem dX10_odds_67 : decode cX10_odds 67 = .ok (.iinc 5 1, 3) := by decide +kernel
theorem dX10_odds_70 : decode cX10_odds 70 = .ok (.goto (-40), 3) := by decide +kernel
theorem dX10_odds_73 : decode cX10_odds 73 = .ok (.iload 4, 2) := by decide +kernel
theorem dX10_odds_75 : decode cX10_odds 75 = .ok (.ireturn, 1) := by decide +kernel
theorem dX10_room_0 : decode cX10_room 0 = .ok (.aload_n 0, 1) := by decide +kernel
theorem dX10_room_1 : decode cX10_room 1 = .ok (.iconst 0, 1) := by decide +kernel
theorem dX10_room_2 : decode cX10_room 2 = .ok (.putfield 1, 3) := by decide +kernel
theorem dX10_room_5 : decode cX10_room 5 = .ok (.aload_n 0, 1) := by decide +kernel
theorem dX10_room_6 : decode cX10_room 6 = .ok (.invokevirtual 281, 3) := by decide +kernel
theorem dX10_room_9 : decode cX10_room 9 = .ok (.ifCond .ne 5, 3) := by decide +kernel
theorem dX10_room_12 : decode cX10_room 12 = .ok (.iconst (-1), 1) := by decide +kernel
theorem dX10_room_13 : decode cX10_room 13 = .ok (.ireturn, 1) := by decide +kernel
theorem dX10_room_14 : decode cX10_room 14 = .ok (.aload_n 0, 1) := by decide +kernel
theorem dX10_room_15 : decode cX10_room 15 = .ok (.invokevirtual 340, 3) := by decide +kernel
theorem dX10_room_18 : decode cX10_room 18 = .ok (.aload_n 0, 1) := by decide +kernel
theorem dX10_room_19 : decode cX10_room 19 = .ok (.getfield 37, 3) := by decide +kernel
theorem dX10_room_22 : decode cX10_room 22 = .ok (.iconst 2, 1) := by decide +kernel
theorem dX10_room_23 : decode cX10_room 23 = .ok (.iaload, 1) := by decide +kernel
theorem dX10_room_24 : decode cX10_room 24 = .ok (.aload_n 0, 1) := by decide +kernel
theorem dX10_room_25 : decode cX10_room 25 = .ok (.getfield 37, 3) := by decide +kernel
theorem dX10_room_28 : decode cX10_room 28 = .ok (.iconst 1, 1) := by decide +kernel
theorem dX10_room_29 : decode cX10_room 29 = .ok (.iaload, 1) := by decide +kernel
theorem dX10_room_30 : decode cX10_room 30 = .ok (.isub, 1) := by decide +kernel
theorem dX10_room_31 : decode cX10_room 31 = .ok (.aload_n 0, 1) := by decide +kernel
theorem dX10_room_32 : decode cX10_room 32 = .ok (.aload_n 0, 1) := by decide +kernel
theorem dX10_room_33 : decode cX10_room 33 = .ok (.getfield 317, 3) := by decide +kernel
theorem dX10_room_36 : decode cX10_room 36 = .ok (.invokevirtual 308, 3) := by decide +kernel
theorem dX10_room_39 : decode cX10_room 39 = .ok (.isub, 1) := by decide +kernel
theorem dX10_room_40 : decode cX10_room 40 = .ok (.istore_n 1, 1) := by decide +kernel
theorem dX10_room_41 : decode cX10_room 41 = .ok (.iload_n 1, 1) := by decide +kernel
theorem dX10_room_42 : decode cX10_room 42 = .ok (.ifCond .ge 7, 3) := by decide +kernel
theorem dX10_room_45 : decode cX10_room 45 = .ok (.iconst (-1), 1) := by decide +kernel
theorem dX10_room_46 : decode cX10_room 46 = .ok (.goto 9, 3) := by decide +kernel
theorem dX10_room_49 : decode cX10_room 49 = .ok (.iload_n 1, 1) := by decide +kernel
theorem dX10_room_50 : decode cX10_room 50 = .ok (.bipush 99, 2) := by decide +kernel
theorem dX10_room_52 : decode cX10_room 52 = .ok (.invokestatic 27, 3) := by decide +kernel
theorem dX10_room_55 : decode cX10_room 55 = .ok (.ireturn, 1) := by decide +kernel
theorem dX10_code_0 : decode cX10_code 0 = .ok (.aload_n 0, 1) := by decide +kernel
theorem dX10_code_1 : decode cX10_code 1 = .ok (.getfield 44, 3) := by decide +kernel
theorem dX10_code_4 : decode cX10_code 4 = .ok (.iconst 3, 1) := by decide +kernel
theorem dX10_code_5 : decode cX10_code 5 = .ok (.aload_n 0, 1) := by decide +kernel
theorem dX10_code_6 : decode cX10_code 6 = .ok (.getfield 441, 3) := by decide +kernel
theorem dX10_code_9 : decode cX10_code 9 = .ok (.imul, 1) := by decide +kernel
theorem dX10_code_10 : decode cX10_code 10 = .ok (.iload_n 1, 1) := by decide +kernel
theorem dX10_code_11 : decode cX10_code 11 = .ok (.iastore, 1) := by decide +kernel
theorem dX10_code_12 : decode cX10_code 12 = .ok (.aload_n 0, 1) := by decide +kernel
theorem dX10_code_13 : decode cX10_code 13 = .ok (.getfield 44, 3) := by decide +kernel
theorem dX10_code_16 : decode cX10_code 16 = .ok (.iconst 3, 1) := by decide +kernel
theorem dX10_code_17 : decode cX10_code 17 = .ok (.aload_n 0, 1) := by decide +kernel
theorem dX10_code_18 : decode cX10_code 18 = .ok (.getfield 441, 3) := by decide +kernel
theorem dX10_code_21 : decode cX10_code 21 = .ok (.imul, 1) := by decide +kernel
theorem dX10_code_22 : decode cX10_code 22 = .ok (.iconst 1, 1) := by decide +kernel
theorem dX10_code_23 : decode cX10_code 23 = .ok (.iadd, 1) := by decide +kernel
theorem dX10_code_24 : decode cX10_code 24 = .ok (.iload_n 2, 1) := by decide +kernel
theorem dX10_code_25 : decode cX10_code 25 = .ok (.iastore, 1) := by decide +kernel
theorem dX10_code_26 : decode cX10_code 26 = .ok (.aload_n 0, 1) := by decide +kernel
theorem dX10_code_27 : decode cX10_code 27 = .ok (.getfield 44, 3) := by decide +kernel
theorem dX10_code_30 : decode cX10_code 30 = .ok (.iconst 3, 1) := by decide +kernel
theorem dX10_code_31 : decode cX10_code 31 = .ok (.aload_n 0, 1) := by decide +kernel
theorem dX10_code_32 : decode cX10_code 32 = .ok (.getfield 441, 3) := by decide +kernel
theorem dX10_code_35 : decode cX10_code 35 = .ok (.imul, 1) := by decide +kernel
theorem dX10_code_36 : decode cX10_code 36 = .ok (.iconst 2, 1) := by decide +kernel
theorem dX10_code_37 : decode cX10_code 37 = .ok (.iadd, 1) := by decide +kernel
theorem dX10_code_38 : decode cX10_code 38 = .ok (.iload_n 3, 1) := by decide +kernel
theorem dX10_code_39 : decode cX10_code 39 = .ok (.iastore, 1) := by decide +kernel
theorem dX10_code_40 : decode cX10_code 40 = .ok (.aload_n 0, 1) := by decide +kernel
theorem dX10_code_41 : decode cX10_code 41 = .ok (.dup, 1) := by decide +kernel
theorem dX10_code_42 : decode cX10_code 42 = .ok (.getfield 441, 3) := by decide +kernel
theorem dX10_code_45 : decode cX10_code 45 = .ok (.iconst 1, 1) := by decide +kernel
theorem dX10_code_46 : decode cX10_code 46 = .ok (.iadd, 1) := by decide +kernel
theorem dX10_code_47 : decode cX10_code 47 = .ok (.putfield 441, 3) := by decide +kernel
theorem dX10_code_50 : decode cX10_code 50 = .ok (.return_, 1) := by decide +kernel
theorem dX10_joins_0 : decode cX10_joins 0 = .ok (.aload_n 0, 1) := by decide +kernel
theorem dX10_joins_1 : decode cX10_joins 1 = .ok (.getfield 444, 3) := by decide +kernel
theorem dX10_joins_4 : decode cX10_joins 4 = .ok (.ifCond .le 69, 3) := by decide +kernel
theorem dX10_joins_7 : decode cX10_joins 7 = .ok (.aload_n 0, 1) := by decide +kernel
theorem dX10_joins_8 : decode cX10_joins 8 = .ok (.getfield 104, 3) := by decide +kernel
theorem dX10_joins_11 : decode cX10_joins 11 = .ok (.aload_n 0, 1) := by decide +kernel
theorem dX10_joins_12 : decode cX10_joins 12 = .ok (.getfield 444, 3) := by decide +kernel
theorem dX10_joins_15 : decode cX10_joins 15 = .ok (.iconst 1, 1) := by decide +kernel
theorem dX10_joins_16 : decode cX10_joins 16 = .ok (.isub, 1) := by decide +kernel
theorem dX10_joins_17 : decode cX10_joins 17 = .ok (.iaload, 1) := by decide +kernel
theorem dX10_joins_18 : decode cX10_joins 18 = .ok (.bipush 21, 2) := by decide +kernel
theorem dX10_joins_20 : decode cX10_joins 20 = .ok (.if_icmp .eq 25, 3) := by decide +kernel
theorem dX10_joins_23 : decode cX10_joins 23 = .ok (.aload_n 0, 1) := by decide +kernel
theorem dX10_joins_24 : decode cX10_joins 24 = .ok (.getfield 104, 3) := by decide +kernel
theorem dX10_joins_27 : decode cX10_joins 27 = .ok (.aload_n 0, 1) := by decide +kernel
theorem dX10_joins_28 : decode cX10_joins 28 = .ok (.getfield 444, 3) := by decide +kernel
theorem dX10_joins_31 : decode cX10_joins 31 = .ok (.iconst 1, 1) := by decide +kernel
theorem dX10_joins_32 : decode cX10_joins 32 = .ok (.isub, 1) := by decide +kernel
theorem dX10_joins_33 : decode cX10_joins 33 = .ok (.iaload, 1) := by decide +kernel
theorem dX10_joins_34 : decode cX10_joins 34 = .ok (.bipush 22, 2) := by decide +kernel
theorem dX10_joins_36 : decode cX10_joins 36 = .ok (.if_icmp .ne 37, 3) := by decide +kernel
theorem dX10_joins_39 : decode cX10_joins 39 = .ok (.iload_n 1, 1) := by decide +kernel
theorem dX10_joins_40 : decode cX10_joins 40 = .ok (.bipush 22, 2) := by decide +kernel
theorem dX10_joins_42 : decode cX10_joins 42 = .ok (.if_icmp .ne 31, 3) := by decide +kernel
theorem dX10_joins_45 : decode cX10_joins 45 = .ok (.aload_n 0, 1) := by decide +kernel
theorem dX10_joins_46 : decode cX10_joins 46 = .ok (.dup, 1) := by decide +kernel
theorem dX10_joins_47 : decode cX10_joins 47 = .ok (.getfield 444, 3) := by decide +kernel
theorem dX10_joins_50 : decode cX10_joins 50 = .ok (.iconst 1, 1) := by decide +kernel
theorem dX10_joins_51 : decode cX10_joins 51 = .ok (.isub, 1) := by decide +kernel
theorem dX10_joins_52 : decode cX10_joins 52 = .ok (.putfield 444, 3) := by decide +kernel
theorem dX10_joins_55 : decode cX10_joins 55 = .ok (.aload_n 0, 1) := by decide +kernel
theorem dX10_joins_56 : decode cX10_joins 56 = .ok (.aload_n 0, 1) := by decide +kernel
theorem dX10_joins_57 : decode cX10_joins 57 = .ok (.getfield 104, 3) := by decide +kernel
theorem dX10_joins_60 : decode cX10_joins 60 = .ok (.aload_n 0, 1) := by decide +kernel
theorem dX10_joins_61 : decode cX10_joins 61 = .ok (.getfield 444, 3) := by decide +kernel
theorem dX10_joins_64 : decode cX10_joins 64 = .ok (.iaload, 1) := by decide +kernel
theorem dX10_joins_65 : decode cX10_joins 65 = .ok (.iconst 0, 1) := by decide +kernel
theorem dX10_joins_66 : decode cX10_joins 66 = .ok (.iconst 0, 1) := by decide +kernel
theorem dX10_joins_67 : decode cX10_joins 67 = .ok (.invokevirtual 447, 3) := by decide +kernel
theorem dX10_joins_70 : decode cX10_joins 70 = .ok (.goto (-70), 3) := by decide +kernel
theorem dX10_joins_73 : decode cX10_joins 73 = .ok (.return_, 1) := by decide +kernel
theorem dX10_nots_0 : decode cX10_nots 0 = .ok (.aload_n 0, 1) := by decide +kernel
theorem dX10_nots_1 : decode cX10_nots 1 = .ok (.getfield 444, 3) := by decide +kernel
theorem dX10_nots_4 : decode cX10_nots 4 = .ok (.ifCond .le 50, 3) := by decide +kernel
theorem dX10_nots_7 : decode cX10_nots 7 = .ok (.aload_n 0, 1) := by decide +kernel
theorem dX10_nots_8 : decode cX10_nots 8 = .ok (.getfield 104, 3) := by decide +kernel
theorem dX10_nots_11 : decode cX10_nots 11 = .ok (.aload_n 0, 1) := by decide +kernel
theorem dX10_nots_12 : decode cX10_nots 12 = .ok (.getfield 444, 3) := by decide +kernel
theorem dX10_nots_15 : decode cX10_nots 15 = .ok (.iconst 1, 1) := by decide +kernel
theorem dX10_nots_16 : decode cX10_nots 16 = .ok (.isub, 1) := by decide +kernel
theorem dX10_nots_17 : decode cX10_nots 17 = .ok (.iaload, 1) := by decide +kernel
theorem dX10_nots_18 : decode cX10_nots 18 = .ok (.bipush 20, 2) := by decide +kernel
theorem dX10_nots_20 : decode cX10_nots 20 = .ok (.if_icmp .ne 34, 3) := by decide +kernel
theorem dX10_nots_23 : decode cX10_nots 23 = .ok (.aload_n 0, 1) := by decide +kernel
theorem dX10_nots_24 : decode cX10_nots 24 = .ok (.dup, 1) := by decide +kernel
theorem dX10_nots_25 : decode cX10_nots 25 = .ok (.getfield 444, 3) := by decide +kernel
theorem dX10_nots_28 : decode cX10_nots 28 = .ok (.iconst 1, 1) := by decide +kernel
theorem dX10_nots_29 : decode cX10_nots 29 = .ok (.isub, 1) := by decide +kernel
theorem dX10_nots_30 : decode cX10_nots 30 = .ok (.putfield 444, 3) := by decide +kernel
theorem dX10_nots_33 : decode cX10_nots 33 = .ok (.aload_n 0, 1) := by decide +kernel
theorem dX10_nots_34 : decode cX10_nots 34 = .ok (.dup, 1) := by decide +kernel
theorem dX10_nots_35 : decode cX10_nots 35 = .ok (.getfield 451, 3) := by decide +kernel
theorem dX10_nots_38 : decode cX10_nots 38 = .ok (.iconst 1, 1) := by decide +kernel
theorem dX10_nots_39 : decode cX10_nots 39 = .ok (.isub, 1) := by decide +kernel
theorem dX10_nots_40 : decode cX10_nots 40 = .ok (.putfield 451, 3) := by decide +kernel
theorem dX10_nots_43 : decode cX10_nots 43 = .ok (.aload_n 0, 1) := by decide +kernel
theorem dX10_nots_44 : decode cX10_nots 44 = .ok (.bipush 20, 2) := by decide +kernel
theorem dX10_nots_46 : decode cX10_nots 46 = .ok (.iconst 0, 1) := by decide +kernel
theorem dX10_nots_47 : decode cX10_nots 47 = .ok (.iconst 0, 1) := by decide +kernel
theorem dX10_nots_48 : decode cX10_nots 48 = .ok (.invokevirtual 447, 3) := by decide +kernel
theorem dX10_nots_51 : decode cX10_nots 51 = .ok (.goto (-51), 3) := by decide +kernel
theorem dX10_nots_54 : decode cX10_nots 54 = .ok (.return_, 1) := by decide +kernel
theorem dX10_leafOf_0 : decode cX10_leafOf 0 = .ok (.aload_n 0, 1) := by decide +kernel
theorem dX10_leafOf_1 : decode cX10_leafOf 1 = .ok (.ldc2_w 136, 3) := by decide +kernel
theorem dX10_leafOf_4 : decode cX10_leafOf 4 = .ok (.invokevirtual 225, 3) := by decide +kernel
theorem dX10_leafOf_7 : decode cX10_leafOf 7 = .ok (.ifCond .eq 7, 3) := by decide +kernel
theorem dX10_leafOf_10 : decode cX10_leafOf 10 = .ok (.iconst 0, 1) := by decide +kernel
theorem dX10_leafOf_11 : decode cX10_leafOf 11 = .ok (.goto 89, 3) := by decide +kernel
theorem dX10_leafOf_14 : decode cX10_leafOf 14 = .ok (.aload_n 0, 1) := by decide +kernel
theorem dX10_leafOf_15 : decode cX10_leafOf 15 = .ok (.ldc2_w 154, 3) := by decide +kernel
theorem dX10_leafOf_18 : decode cX10_leafOf 18 = .ok (.invokevirtual 225, 3) := by decide +kernel
theorem dX10_leafOf_21 : decode cX10_leafOf 21 = .ok (.ifCond .eq 7, 3) := by decide +kernel
theorem dX10_leafOf_24 : decode cX10_leafOf 24 = .ok (.iconst 1, 1) := by decide +kernel
theorem dX10_leafOf_25 : decode cX10_leafOf 25 = .ok (.goto 75, 3) := by decide +kernel
theorem dX10_leafOf_28 : decode cX10_leafOf 28 = .ok (.aload_n 0, 1) := by decide +kernel
theorem dX10_leafOf_29 : decode cX10_leafOf 29 = .ok (.ldc2_w 156, 3) := by decide +kernel
theorem dX10_leafOf_32 : decode cX10_leafOf 32 = .ok (.invokevirtual 225, 3) := by decide +kernel
theorem dX10_leafOf_35 : decode cX10_leafOf 35 = .ok (.ifCond .eq 7, 3) := by decide +kernel
theorem dX10_leafOf_38 : decode cX10_leafOf 38 = .ok (.iconst 2, 1) := by decide +kernel
theorem dX10_leafOf_39 : decode cX10_leafOf 39 = .ok (.goto 61, 3) := by decide +kernel
theorem dX10_leafOf_42 : decode cX10_leafOf 42 = .ok (.aload_n 0, 1) := by decide +kernel
theorem dX10_leafOf_43 : decode cX10_leafOf 43 = .ok (.ldc2_w 158, 3) := by decide +kernel
theorem dX10_leafOf_46 : decode cX10_leafOf 46 = .ok (.invokevirtual 225, 3) := by decide +kernel
theorem dX10_leafOf_49 : decode cX10_leafOf 49 = .ok (.ifCond .eq 7, 3) := by decide +kernel
theorem dX10_leafOf_52 : decode cX10_leafOf 52 = .ok (.iconst 3, 1) := by decide +kernel
theorem dX10_leafOf_53 : decode cX10_leafOf 53 = .ok (.goto 47, 3) := by decide +kernel
theorem dX10_leafOf_56 : decode cX10_leafOf 56 = .ok (.aload_n 0, 1) := by decide +kernel
theorem dX10_leafOf_57 : decode cX10_leafOf 57 = .ok (.ldc2_w 160, 3) := by decide +kernel
theorem dX10_leafOf_60 : decode cX10_leafOf 60 = .ok (.invokevirtual 225, 3) := by decide +kernel
theorem dX10_leafOf_63 : decode cX10_leafOf 63 = .ok (.ifCond .eq 7, 3) := by decide +kernel
theorem dX10_leafOf_66 : decode cX10_leafOf 66 = .ok (.iconst 4, 1) := by decide +kernel
theorem dX10_leafOf_67 : decode cX10_leafOf 67 = .ok (.goto 33, 3) := by decide +kernel
theorem dX10_leafOf_70 : decode cX10_leafOf 70 = .ok (.aload_n 0, 1) := by decide +kernel
theorem dX10_leafOf_71 : decode cX10_leafOf 71 = .ok (.ldc2_w 162, 3) := by decide +kernel
theorem dX10_leafOf_74 : decode cX10_leafOf 74 = .ok (.invokevirtual 225, 3) := by decide +kernel
theorem dX10_leafOf_77 : decode cX10_leafOf 77 = .ok (.ifCond .eq 7, 3) := by decide +kernel
theorem dX10_leafOf_80 : decode cX10_leafOf 80 = .ok (.iconst 5, 1) := by decide +kernel
theorem dX10_leafOf_81 : decode cX10_leafOf 81 = .ok (.goto 19, 3) := by decide +kernel
theorem dX10_leafOf_84 : decode cX10_leafOf 84 = .ok (.aload_n 0, 1) := by decide +kernel
theorem dX10_leafOf_85 : decode cX10_leafOf 85 = .ok (.ldc2_w 164, 3) := by decide +kernel
theorem dX10_leafOf_88 : decode cX10_leafOf 88 = .ok (.invokevirtual 225, 3) := by decide +kernel
theorem dX10_leafOf_91 : decode cX10_leafOf 91 = .ok (.ifCond .eq 8, 3) := by decide +kernel
theorem dX10_leafOf_94 : decode cX10_leafOf 94 = .ok (.bipush 6, 2) := by decide +kernel
theorem dX10_leafOf_96 : decode cX10_leafOf 96 = .ok (.goto 4, 3) := by decide +kernel
theorem dX10_leafOf_99 : decode cX10_leafOf 99 = .ok (.iconst (-1), 1) := by decide +kernel
theorem dX10_leafOf_100 : decode cX10_leafOf 100 = .ok (.ireturn, 1) := by decide +kernel
theorem dX10_operand_0 : decode cX10_operand 0 = .ok (.aload_n 0, 1) := by decide +kernel
theorem dX10_operand_1 : decode cX10_operand 1 = .ok (.ldc2_w 152, 3) := by decide +kernel
theorem dX10_operand_4 : decode cX10_operand 4 = .ok (.invokevirtual 225, 3) := by decide +kernel
theorem dX10_operand_7 : decode cX10_operand 7 = .ok (.istore_n 1, 1) := by decide +kernel
theorem dX10_operand_8 : decode cX10_operand 8 = .ok (.aload_n 0, 1) := by decide +kernel
theorem dX10_operand_9 : decode cX10_operand 9 = .ok (.bipush 40, 2) := by decide +kernel
theorem dX10_operand_11 : decode cX10_operand 11 = .ok (.invokevirtual 202, 3) := by decide +kernel
theorem dX10_operand_14 : decode cX10_operand 14 = .ok (.istore_n 2, 1) := by decide +kernel
theorem dX10_operand_15 : decode cX10_operand 15 = .ok (.aload_n 0, 1) := by decide +kernel
theorem dX10_operand_16 : decode cX10_operand 16 = .ok (.invokevirtual 454, 3) := by decide +kernel
theorem dX10_operand_19 : decode cX10_operand 19 = .ok (.istore_n 3, 1) := by decide +kernel
theorem dX10_operand_20 : decode cX10_operand 20 = .ok (.iload_n 1, 1) := by decide +kernel
theorem dX10_operand_21 : decode cX10_operand 21 = .ok (.ifCond .ne 17, 3) := by decide +kernel
theorem dX10_operand_24 : decode cX10_operand 24 = .ok (.iload_n 2, 1) := by decide +kernel
theorem dX10_operand_25 : decode cX10_operand 25 = .ok (.ifCond .ne 13, 3) := by decide +kernel
theorem dX10_operand_28 : decode cX10_operand 28 = .ok (.iload_n 3, 1) := by decide +kernel
theorem dX10_operand_29 : decode cX10_operand 29 = .ok (.ifCond .ge 9, 3) := by decide +kernel
theorem dX10_operand_32 : decode cX10_operand 32 = .ok (.aload_n 0, 1) := by decide +kernel
theorem dX10_operand_33 : decode cX10_operand 33 = .ok (.iconst 1, 1) := by decide +kernel
theorem dX10_operand_34 : decode cX10_operand 34 = .ok (.invokevirtual 205, 3) := by decide +kernel
theorem dX10_operand_37 : decode cX10_operand 37 = .ok (.ireturn, 1) := by decide +kernel
theorem dX10_operand_38 : decode cX10_operand 38 = .ok (.aload_n 0, 1) := by decide +kernel
theorem dX10_operand_39 : decode cX10_operand 39 = .ok (.getfield 457, 3) := by decide +kernel
theorem dX10_operand_42 : decode cX10_operand 42 = .ok (.bipush 20, 2) := by decide +kernel
theorem dX10_operand_44 : decode cX10_operand 44 = .ok (.if_icmp .eq 12, 3) := by decide +kernel
theorem dX10_operand_47 : decode cX10_operand 47 = .ok (.aload_n 0, 1) := by decide +kernel
theorem dX10_operand_48 : decode cX10_operand 48 = .ok (.getfield 451, 3) := by decide +kernel
theorem dX10_operand_51 : decode cX10_operand 51 = .ok (.bipush 8, 2) := by decide +kernel
theorem dX10_operand_53 : decode cX10_operand 53 = .ok (.if_icmp .le 9, 3) := by decide +kernel
theorem dX10_operand_56 : decode cX10_operand 56 = .ok (.aload_n 0, 1) := by decide +kernel
theorem dX10_operand_57 : decode cX10_operand 57 = .ok (.iconst 4, 1) := by decide +kernel
theorem dX10_operand_58 : decode cX10_operand 58 = .ok (.invokevirtual 205, 3) := by decide +kernel
theorem dX10_operand_61 : decode cX10_operand 61 = .ok (.ireturn, 1) := by decide +kernel
theorem dX10_operand_62 : decode cX10_operand 62 = .ok (.aload_n 0, 1) := by decide +kernel
theorem dX10_operand_63 : decode cX10_operand 63 = .ok (.dup, 1) := by decide +kernel
theorem dX10_operand_64 : decode cX10_operand 64 = .ok (.getfield 457, 3) := by decide +kernel
theorem dX10_operand_67 : decode cX10_operand 67 = .ok (.iconst 1, 1) := by decide +kernel
theorem dX10_operand_68 : decode cX10_operand 68 = .ok (.iadd, 1) := by decide +kernel
theorem dX10_operand_69 : decode cX10_operand 69 = .ok (.putfield 457, 3) := by decide +kernel
theorem dX10_operand_72 : decode cX10_operand 72 = .ok (.aload_n 0, 1) := by decide +kernel
theorem dX10_operand_73 : decode cX10_operand 73 = .ok (.invokevirtual 208, 3) := by decide +kernel
theorem dX10_operand_76 : decode cX10_operand 76 = .ok (.iload_n 1, 1) := by decide +kernel
theorem dX10_operand_77 : decode cX10_operand 77 = .ok (.ifCond .ne 7, 3) := by decide +kernel
theorem dX10_operand_80 : decode cX10_operand 80 = .ok (.iload_n 2, 1) := by decide +kernel
theorem dX10_operand_81 : decode cX10_operand 81 = .ok (.ifCond .eq 45, 3) := by decide +kernel
theorem dX10_operand_84 : decode cX10_operand 84 = .ok (.aload_n 0, 1) := by decide +kernel
theorem dX10_operand_85 : decode cX10_operand 85 = .ok (.getfield 104, 3) := by decide +kernel
theorem dX10_operand_88 : decode cX10_operand 88 = .ok (.aload_n 0, 1) := by decide +kernel
theorem dX10_operand_89 : decode cX10_operand 89 = .ok (.getfield 444, 3) := by decide +kernel
theorem dX10_operand_92 : decode cX10_operand 92 = .ok (.iload_n 1, 1) := by decide +kernel
theorem dX10_operand_93 : decode cX10_operand 93 = .ok (.ifCond .eq 8, 3) := by decide +kernel
theorem dX10_operand_96 : decode cX10_operand 96 = .ok (.bipush 20, 2) := by decide +kernel
theorem dX10_operand_98 : decode cX10_operand 98 = .ok (.goto 5, 3) := by decide +kernel
theorem dX10_operand_101 : decode cX10_operand 101 = .ok (.bipush 23, 2) := by decide +kernel
theorem dX10_operand_103 : decode cX10_operand 103 = .ok (.iastore, 1) := by decide +kernel
theorem dX10_operand_104 : decode cX10_operand 104 = .ok (.aload_n 0, 1) := by decide +kernel
theorem dX10_operand_105 : decode cX10_operand 105 = .ok (.dup, 1) := by decide +kernel
theorem dX10_operand_106 : decode cX10_operand 106 = .ok (.getfield 444, 3) := by decide +kernel
theorem dX10_operand_109 : decode cX10_operand 109 = .ok (.iconst 1, 1) := by decide +kernel
theorem dX10_operand_110 : decode cX10_operand 110 = .ok (.iadd, 1) := by decide +kernel
theorem dX10_operand_111 : decode cX10_operand 111 = .ok (.putfield 444, 3) := by decide +kernel
theorem dX10_operand_114 : decode cX10_operand 114 = .ok (.aload_n 0, 1) := by decide +kernel
theorem dX10_operand_115 : decode cX10_operand 115 = .ok (.dup, 1) := by decide +kernel
theorem dX10_operand_116 : decode cX10_operand 116 = .ok (.getfield 451, 3) := by decide +kernel
theorem dX10_operand_119 : decode cX10_operand 119 = .ok (.iconst 1, 1) := by decide +kernel
theorem dX10_operand_120 : decode cX10_operand 120 = .ok (.iadd, 1) := by decide +kernel
theorem dX10_operand_121 : decode cX10_operand 121 = .ok (.putfield 451, 3) := by decide +kernel
theorem dX10_operand_124 : decode cX10_operand 124 = .ok (.iconst 1, 1) := by decide +kernel
theorem dX10_operand_125 : decode cX10_operand 125 = .ok (.ireturn, 1) := by decide +kernel
theorem dX10_operand_126 : decode cX10_operand 126 = .ok (.aload_n 0, 1) := by decide +kernel
theorem dX10_operand_127 : decode cX10_operand 127 = .ok (.iconst 1, 1) := by decide +kernel
theorem dX10_operand_128 : decode cX10_operand 128 = .ok (.putfield 460, 3) := by decide +kernel
theorem dX10_operand_131 : decode cX10_operand 131 = .ok (.iload_n 3, 1) := by decide +kernel
theorem dX10_operand_132 : decode cX10_operand 132 = .ok (.iconst 2, 1) := by decide +kernel
theorem dX10_operand_133 : decode cX10_operand 133 = .ok (.if_icmp .ge 12, 3) := by decide +kernel
theorem dX10_operand_136 : decode cX10_operand 136 = .ok (.aload_n 0, 1) := by decide +kernel
theorem dX10_operand_137 : decode cX10_operand 137 = .ok (.iload_n 3, 1) := by decide +kernel
theorem dX10_operand_138 : decode cX10_operand 138 = .ok (.iconst 0, 1) := by decide +kernel
theorem dX10_operand_139 : decode cX10_operand 139 = .ok (.iconst 0, 1) := by decide +kernel
theorem dX10_operand_140 : decode cX10_operand 140 = .ok (.invokevirtual 447, 3) := by decide +kernel
theorem dX10_operand_143 : decode cX10_operand 143 = .ok (.iconst 1, 1) := by decide +kernel
theorem dX10_operand_144 : decode cX10_operand 144 = .ok (.ireturn, 1) := by decide +kernel
theorem dX10_operand_145 : decode cX10_operand 145 = .ok (.iload_n 3, 1) := by decide +kernel
theorem dX10_operand_146 : decode cX10_operand 146 = .ok (.iconst 2, 1) := by decide +kernel
theorem dX10_operand_147 : decode cX10_operand 147 = .ok (.if_icmp .ne 54, 3) := by decide +kernel
theorem dX10_operand_150 : decode cX10_operand 150 = .ok (.aload_n 0, 1) := by decide +kernel
theorem dX10_operand_151 : decode cX10_operand 151 = .ok (.invokevirtual 218, 3) := by decide +kernel
theorem dX10_operand_154 : decode cX10_operand 154 = .ok (.ifCond .ne 9, 3) := by decide +kernel
theorem dX10_operand_157 : decode cX10_operand 157 = .ok (.aload_n 0, 1) := by decide +kernel
theorem dX10_operand_158 : decode cX10_operand 158 = .ok (.iconst 1, 1) := by decide +kernel
theorem dX10_operand_159 : decode cX10_operand 159 = .ok (.invokevirtual 205, 3) := by decide +kernel
theorem dX10_operand_162 : decode cX10_operand 162 = .ok (.ireturn, 1) := by decide +kernel
theorem dX10_operand_163 : decode cX10_operand 163 = .ok (.aload_n 0, 1) := by decide +kernel
theorem dX10_operand_164 : decode cX10_operand 164 = .ok (.iconst 0, 1) := by decide +kernel
theorem dX10_operand_165 : decode cX10_operand 165 = .ok (.aload_n 0, 1) := by decide +kernel
theorem dX10_operand_166 : decode cX10_operand 166 = .ok (.getfield 37, 3) := by decide +kernel
theorem dX10_operand_169 : decode cX10_operand 169 = .ok (.iconst 5, 1) := by decide +kernel
theorem dX10_operand_170 : decode cX10_operand 170 = .ok (.iaload, 1) := by decide +kernel
theorem dX10_operand_171 : decode cX10_operand 171 = .ok (.invokevirtual 222, 3) := by decide +kernel
theorem dX10_operand_174 : decode cX10_operand 174 = .ok (.istore 4, 2) := by decide +kernel
theorem dX10_operand_176 : decode cX10_operand 176 = .ok (.iload 4, 2) := by decide +kernel
theorem dX10_operand_178 : decode cX10_operand 178 = .ok (.ifCond .ge 9, 3) := by decide +kernel
theorem dX10_operand_181 : decode cX10_operand 181 = .ok (.aload_n 0, 1) := by decide +kernel
theorem dX10_operand_182 : decode cX10_operand 182 = .ok (.iconst 3, 1) := by decide +kernel
theorem dX10_operand_183 : decode cX10_operand 183 = .ok (.invokevirtual 205, 3) := by decide +kernel
theorem dX10_operand_186 : decode cX10_operand 186 = .ok (.ireturn, 1) := by decide +kernel
theorem dX10_operand_187 : decode cX10_operand 187 = .ok (.aload_n 0, 1) := by decide +kernel
theorem dX10_operand_188 : decode cX10_operand 188 = .ok (.iload_n 3, 1) := by decide +kernel
theorem dX10_operand_189 : decode cX10_operand 189 = .ok (.iconst 0, 1) := by decide +kernel
theorem dX10_operand_190 : decode cX10_operand 190 = .ok (.iload 4, 2) := by decide +kernel
theorem dX10_operand_192 : decode cX10_operand 192 = .ok (.invokevirtual 447, 3) := by decide +kernel
theorem dX10_operand_195 : decode cX10_operand 195 = .ok (.aload_n 0, 1) := by decide +kernel
theorem dX10_operand_196 : decode cX10_operand 196 = .ok (.invokevirtual 208, 3) := by decide +kernel
theorem dX10_operand_199 : decode cX10_operand 199 = .ok (.iconst 1, 1) := by decide +kernel
theorem dX10_operand_200 : decode cX10_operand 200 = .ok (.ireturn, 1) := by decide +kernel
theorem dX10_operand_201 : decode cX10_operand 201 = .ok (.aload_n 0, 1) := by decide +kernel
theorem dX10_operand_202 : decode cX10_operand 202 = .ok (.getfield 179, 3) := by decide +kernel
theorem dX10_operand_205 : decode cX10_operand 205 = .ok (.iconst 3, 1) := by decide +kernel
theorem dX10_operand_206 : decode cX10_operand 206 = .ok (.if_icmp .ne 21, 3) := by decide +kernel
theorem dX10_operand_209 : decode cX10_operand 209 = .ok (.aload_n 0, 1) := by decide +kernel
theorem dX10_operand_210 : decode cX10_operand 210 = .ok (.getfield 189, 3) := by decide +kernel
theorem dX10_operand_213 : decode cX10_operand 213 = .ok (.bipush 60, 2) := by decide +kernel
theorem dX10_operand_215 : decode cX10_operand 215 = .ok (.if_icmp .lt 12, 3) := by decide +kernel
theorem dX10_operand_218 : decode cX10_operand 218 = .ok (.aload_n 0, 1) := by decide +kernel
theorem dX10_operand_219 : decode cX10_operand 219 = .ok (.getfield 189, 3) := by decide +kernel
theorem dX10_operand_222 : decode cX10_operand 222 = .ok (.bipush 62, 2) := by decide +kernel
theorem dX10_operand_224 : decode cX10_operand 224 = .ok (.if_icmp .le 9, 3) := by decide +kernel
theorem dX10_operand_227 : decode cX10_operand 227 = .ok (.aload_n 0, 1) := by decide +kernel
theorem dX10_operand_228 : decode cX10_operand 228 = .ok (.iconst 1, 1) := by decide +kernel
theorem dX10_operand_229 : decode cX10_operand 229 = .ok (.invokevirtual 205, 3) := by decide +kernel
theorem dX10_operand_232 : decode cX10_operand 232 = .ok (.ireturn, 1) := by decide +kernel
theorem dX10_operand_233 : decode cX10_operand 233 = .ok (.aload_n 0, 1) := by decide +kernel
theorem dX10_operand_234 : decode cX10_operand 234 = .ok (.getfield 189, 3) := by decide +kernel
theorem dX10_operand_237 : decode cX10_operand 237 = .ok (.istore 4, 2) := by decide +kernel
theorem dX10_operand_239 : decode cX10_operand 239 = .ok (.aload_n 0, 1) := by decide +kernel
theorem dX10_operand_240 : decode cX10_operand 240 = .ok (.invokevirtual 208, 3) := by decide +kernel
theorem dX10_operand_243 : decode cX10_operand 243 = .ok (.aload_n 0, 1) := by decide +kernel
theorem dX10_operand_244 : decode cX10_operand 244 = .ok (.getfield 179, 3) := by decide +kernel
theorem dX10_operand_247 : decode cX10_operand 247 = .ok (.iconst 2, 1) := by decide +kernel
theorem dX10_operand_248 : decode cX10_operand 248 = .ok (.if_icmp .eq 9, 3) := by decide +kernel
theorem dX10_operand_251 : decode cX10_operand 251 = .ok (.aload_n 0, 1) := by decide +kernel
theorem dX10_operand_252 : decode cX10_operand 252 = .ok (.iconst 1, 1) := by decide +kernel
theorem dX10_operand_253 : decode cX10_operand 253 = .ok (.invokevirtual 205, 3) := by decide +kernel
theorem dX10_operand_256 : decode cX10_operand 256 = .ok (.ireturn, 1) := by decide +kernel
theorem dX10_operand_257 : decode cX10_operand 257 = .ok (.aload_n 0, 1) := by decide +kernel
theorem dX10_operand_258 : decode cX10_operand 258 = .ok (.iload_n 3, 1) := by decide +kernel
theorem dX10_operand_259 : decode cX10_operand 259 = .ok (.iload 4, 2) := by decide +kernel
theorem dX10_operand_261 : decode cX10_operand 261 = .ok (.aload_n 0, 1) := by decide +kernel
theorem dX10_operand_262 : decode cX10_operand 262 = .ok (.getfield 189, 3) := by decide +kernel
theorem dX10_operand_265 : decode cX10_operand 265 = .ok (.invokevirtual 447, 3) := by decide +kernel
theorem dX10_operand_268 : decode cX10_operand 268 = .ok (.aload_n 0, 1) := by decide +kernel
theorem dX10_operand_269 : decode cX10_operand 269 = .ok (.invokevirtual 208, 3) := by decide +kernel
theorem dX10_operand_272 : decode cX10_operand 272 = .ok (.iconst 1, 1) := by decide +kernel
theorem dX10_operand_273 : decode cX10_operand 273 = .ok (.ireturn, 1) := by decide +kernel
theorem dX10_behind__0 : decode cX10_behind_ 0 = .ok (.aload_n 0, 1) := by decide +kernel
theorem dX10_behind__1 : decode cX10_behind_ 1 = .ok (.invokevirtual 463, 3) := by decide +kernel
theorem dX10_behind__4 : decode cX10_behind_ 4 = .ok (.aload_n 0, 1) := by decide +kernel
theorem dX10_behind__5 : decode cX10_behind_ 5 = .ok (.ldc2_w 150, 3) := by decide +kernel
theorem dX10_behind__8 : decode cX10_behind_ 8 = .ok (.invokevirtual 225, 3) := by decide +kernel
theorem dX10_behind__11 : decode cX10_behind_ 11 = .ok (.ifCond .ne 13, 3) := by decide +kernel
theorem dX10_behind__14 : decode cX10_behind_ 14 = .ok (.aload_n 0, 1) := by decide +kernel
theorem dX10_behind__15 : decode cX10_behind_ 15 = .ok (.ldc2_w 148, 3) := by decide +kernel
theorem dX10_behind__18 : decode cX10_behind_ 18 = .ok (.invokevirtual 225, 3) := by decide +kernel
theorem dX10_behind__21 : decode cX10_behind_ 21 = .ok (.ifCond .eq 71, 3) := by decide +kernel
theorem dX10_behind__24 : decode cX10_behind_ 24 = .ok (.aload_n 0, 1) := by decide +kernel
theorem dX10_behind__25 : decode cX10_behind_ 25 = .ok (.aload_n 0, 1) := by decide +kernel
theorem dX10_behind__26 : decode cX10_behind_ 26 = .ok (.ldc2_w 150, 3) := by decide +kernel
theorem dX10_behind__29 : decode cX10_behind_ 29 = .ok (.invokevirtual 225, 3) := by decide +kernel
theorem dX10_behind__32 : decode cX10_behind_ 32 = .ok (.ifCond .eq 8, 3) := by decide +kernel
theorem dX10_behind__35 : decode cX10_behind_ 35 = .ok (.bipush 21, 2) := by decide +kernel
theorem dX10_behind__37 : decode cX10_behind_ 37 = .ok (.goto 5, 3) := by decide +kernel
theorem dX10_behind__40 : decode cX10_behind_ 40 = .ok (.bipush 22, 2) := by decide +kernel
theorem dX10_behind__42 : decode cX10_behind_ 42 = .ok (.invokevirtual 466, 3) := by decide +kernel
theorem dX10_behind__45 : decode cX10_behind_ 45 = .ok (.aload_n 0, 1) := by decide +kernel
theorem dX10_behind__46 : decode cX10_behind_ 46 = .ok (.getfield 104, 3) := by decide +kernel
theorem dX10_behind__49 : decode cX10_behind_ 49 = .ok (.aload_n 0, 1) := by decide +kernel
theorem dX10_behind__50 : decode cX10_behind_ 50 = .ok (.getfield 444, 3) := by decide +kernel
theorem dX10_behind__53 : decode cX10_behind_ 53 = .ok (.aload_n 0, 1) := by decide +kernel
theorem dX10_behind__54 : decode cX10_behind_ 54 = .ok (.ldc2_w 150, 3) := by decide +kernel
theorem dX10_behind__57 : decode cX10_behind_ 57 = .ok (.invokevirtual 225, 3) := by decide +kernel
theorem dX10_behind__60 : decode cX10_behind_ 60 = .ok (.ifCond .eq 8, 3) := by decide +kernel
theorem dX10_behind__63 : decode cX10_behind_ 63 = .ok (.bipush 21, 2) := by decide +kernel
theorem dX10_behind__65 : decode cX10_behind_ 65 = .ok (.goto 5, 3) := by decide +kernel
theorem dX10_behind__68 : decode cX10_behind_ 68 = .ok (.bipush 22, 2) := by decide +kernel
theorem dX10_behind__70 : decode cX10_behind_ 70 = .ok (.iastore, 1) := by decide +kernel
theorem dX10_behind__71 : decode cX10_behind_ 71 = .ok (.aload_n 0, 1) := by decide +kernel
theorem dX10_behind__72 : decode cX10_behind_ 72 = .ok (.dup, 1) := by decide +kernel
theorem dX10_behind__73 : decode cX10_behind_ 73 = .ok (.getfield 444, 3) := by decide +kernel
theorem dX10_behind__76 : decode cX10_behind_ 76 = .ok (.iconst 1, 1) := by decide +kernel
theorem dX10_behind__77 : decode cX10_behind_ 77 = .ok (.iadd, 1) := by decide +kernel
theorem dX10_behind__78 : decode cX10_behind_ 78 = .ok (.putfield 444, 3) := by decide +kernel
theorem dX10_behind__81 : decode cX10_behind_ 81 = .ok (.aload_n 0, 1) := by decide +kernel
theorem dX10_behind__82 : decode cX10_behind_ 82 = .ok (.iconst 0, 1) := by decide +kernel
theorem dX10_behind__83 : decode cX10_behind_ 83 = .ok (.putfield 460, 3) := by decide +kernel
theorem dX10_behind__86 : decode cX10_behind_ 86 = .ok (.aload_n 0, 1) := by decide +kernel
theorem dX10_behind__87 : decode cX10_behind_ 87 = .ok (.invokevirtual 208, 3) := by decide +kernel
theorem dX10_behind__90 : decode cX10_behind_ 90 = .ok (.iconst 1, 1) := by decide +kernel
theorem dX10_behind__91 : decode cX10_behind_ 91 = .ok (.ireturn, 1) := by decide +kernel
theorem dX10_behind__92 : decode cX10_behind_ 92 = .ok (.aload_n 0, 1) := by decide +kernel
theorem dX10_behind__93 : decode cX10_behind_ 93 = .ok (.bipush 22, 2) := by decide +kernel
theorem dX10_behind__95 : decode cX10_behind_ 95 = .ok (.invokevirtual 466, 3) := by decide +kernel
theorem dX10_behind__98 : decode cX10_behind_ 98 = .ok (.aload_n 0, 1) := by decide +kernel
theorem dX10_behind__99 : decode cX10_behind_ 99 = .ok (.bipush 41, 2) := by decide +kernel
theorem dX10_behind__101 : decode cX10_behind_ 101 = .ok (.invokevirtual 202, 3) := by decide +kernel
theorem dX10_behind__104 : decode cX10_behind_ 104 = .ok (.ifCond .eq 10, 3) := by decide +kernel
theorem dX10_behind__107 : decode cX10_behind_ 107 = .ok (.aload_n 0, 1) := by decide +kernel
theorem dX10_behind__108 : decode cX10_behind_ 108 = .ok (.getfield 444, 3) := by decide +kernel
theorem dX10_behind__111 : decode cX10_behind_ 111 = .ok (.ifCond .ne 9, 3) := by decide +kernel
theorem dX10_behind__114 : decode cX10_behind_ 114 = .ok (.aload_n 0, 1) := by decide +kernel
theorem dX10_behind__115 : decode cX10_behind_ 115 = .ok (.iconst 1, 1) := by decide +kernel
theorem dX10_behind__116 : decode cX10_behind_ 116 = .ok (.invokevirtual 205, 3) := by decide +kernel
theorem dX10_behind__119 : decode cX10_behind_ 119 = .ok (.ireturn, 1) := by decide +kernel
theorem dX10_behind__120 : decode cX10_behind_ 120 = .ok (.aload_n 0, 1) := by decide +kernel
theorem dX10_behind__121 : decode cX10_behind_ 121 = .ok (.dup, 1) := by decide +kernel
theorem dX10_behind__122 : decode cX10_behind_ 122 = .ok (.getfield 444, 3) := by decide +kernel
theorem dX10_behind__125 : decode cX10_behind_ 125 = .ok (.iconst 1, 1) := by decide +kernel
theorem dX10_behind__126 : decode cX10_behind_ 126 = .ok (.isub, 1) := by decide +kernel
theorem dX10_behind__127 : decode cX10_behind_ 127 = .ok (.putfield 444, 3) := by decide +kernel
theorem dX10_behind__130 : decode cX10_behind_ 130 = .ok (.aload_n 0, 1) := by decide +kernel
theorem dX10_behind__131 : decode cX10_behind_ 131 = .ok (.dup, 1) := by decide +kernel
theorem dX10_behind__132 : decode cX10_behind_ 132 = .ok (.getfield 451, 3) := by decide +kernel
theorem dX10_behind__135 : decode cX10_behind_ 135 = .ok (.iconst 1, 1) := by decide +kernel
theorem dX10_behind__136 : decode cX10_behind_ 136 = .ok (.isub, 1) := by decide +kernel
theorem dX10_behind__137 : decode cX10_behind_ 137 = .ok (.putfield 451, 3) := by decide +kernel
theorem dX10_behind__140 : decode cX10_behind_ 140 = .ok (.aload_n 0, 1) := by decide +kernel
theorem dX10_behind__141 : decode cX10_behind_ 141 = .ok (.invokevirtual 208, 3) := by decide +kernel
theorem dX10_behind__144 : decode cX10_behind_ 144 = .ok (.iconst 1, 1) := by decide +kernel
theorem dX10_behind__145 : decode cX10_behind_ 145 = .ok (.ireturn, 1) := by decide +kernel
theorem dX10_isLeaf_0 : decode cX10_isLeaf 0 = .ok (.aload_n 0, 1) := by decide +kernel
theorem dX10_isLeaf_1 : decode cX10_isLeaf 1 = .ok (.iload_n 1, 1) := by decide +kernel
theorem dX10_isLeaf_2 : decode cX10_isLeaf 2 = .ok (.invokevirtual 288, 3) := by decide +kernel
theorem dX10_isLeaf_5 : decode cX10_isLeaf 5 = .ok (.istore 5, 2) := by decide +kernel
theorem dX10_isLeaf_7 : decode cX10_isLeaf 7 = .ok (.iload_n 2, 1) := by decide +kernel
theorem dX10_isLeaf_8 : decode cX10_isLeaf 8 = .ok (.ifCond .ne 14, 3) := by decide +kernel
theorem dX10_isLeaf_11 : decode cX10_isLeaf 11 = .ok (.iload 5, 2) := by decide +kernel
theorem dX10_isLeaf_13 : decode cX10_isLeaf 13 = .ok (.ifCond .lt 7, 3) := by decide +kernel
theorem dX10_isLeaf_16 : decode cX10_isLeaf 16 = .ok (.iconst 1, 1) := by decide +kernel
theorem dX10_isLeaf_17 : decode cX10_isLeaf 17 = .ok (.goto 4, 3) := by decide +kernel
theorem dX10_isLeaf_20 : decode cX10_isLeaf 20 = .ok (.iconst 0, 1) := by decide +kernel
theorem dX10_isLeaf_21 : decode cX10_isLeaf 21 = .ok (.ireturn, 1) := by decide +kernel
theorem dX10_isLeaf_22 : decode cX10_isLeaf 22 = .ok (.iload_n 2, 1) := by decide +kernel
theorem dX10_isLeaf_23 : decode cX10_isLeaf 23 = .ok (.iconst 1, 1) := by decide +kernel
theorem dX10_isLeaf_24 : decode cX10_isLeaf 24 = .ok (.if_icmp .ne 24, 3) := by decide +kernel
theorem dX10_isLeaf_27 : decode cX10_isLeaf 27 = .ok (.iload 5, 2) := by decide +kernel
theorem dX10_isLeaf_29 : decode cX10_isLeaf 29 = .ok (.ifCond .ge 5, 3) := by decide +kernel
theorem dX10_isLeaf_32 : decode cX10_isLeaf 32 = .ok (.iconst 0, 1) := by decide +kernel
theorem dX10_isLeaf_33 : decode cX10_isLeaf 33 = .ok (.ireturn, 1) := by decide +kernel
theorem dX10_isLeaf_34 : decode cX10_isLeaf 34 = .ok (.aload_n 0, 1) := by decide +kernel
theorem dX10_isLeaf_35 : decode cX10_isLeaf 35 = .ok (.invokevirtual 340, 3) := by decide +kernel
theorem dX10_isLeaf_38 : decode cX10_isLeaf 38 = .ok (.aload_n 0, 1) := by decide +kernel
theorem dX10_isLeaf_39 : decode cX10_isLeaf 39 = .ok (.getfield 317, 3) := by decide +kernel
theorem dX10_isLeaf_42 : decode cX10_isLeaf 42 = .ok (.iload 5, 2) := by decide +kernel
theorem dX10_isLeaf_44 : decode cX10_isLeaf 44 = .ok (.invokestatic 232, 3) := by decide +kernel
theorem dX10_isLeaf_47 : decode cX10_isLeaf 47 = .ok (.ireturn, 1) := by decide +kernel
theorem dX10_isLeaf_48 : decode cX10_isLeaf 48 = .ok (.iload_n 2, 1) := by decide +kernel
theorem dX10_isLeaf_49 : decode cX10_isLeaf 49 = .ok (.iconst 2, 1) := by decide +kernel
theorem dX10_isLeaf_50 : decode cX10_isLeaf 50 = .ok (.if_icmp .ne 50, 3) := by decide +kernel
theorem dX10_isLeaf_53 : decode cX10_isLeaf 53 = .ok (.iload 5, 2) := by decide +kernel
theorem dX10_isLeaf_55 : decode cX10_isLeaf 55 = .ok (.ifCond .lt 43, 3) := by decide +kernel
theorem dX10_isLeaf_58 : decode cX10_isLeaf 58 = .ok (.aload_n 0, 1) := by decide +kernel
theorem dX10_isLeaf_59 : decode cX10_isLeaf 59 = .ok (.iload 4, 2) := by decide +kernel
theorem dX10_isLeaf_61 : decode cX10_isLeaf 61 = .ok (.invokevirtual 288, 3) := by decide +kernel
theorem dX10_isLeaf_64 : decode cX10_isLeaf 64 = .ok (.ifCond .lt 34, 3) := by decide +kernel
theorem dX10_isLeaf_67 : decode cX10_isLeaf 67 = .ok (.aload_n 0, 1) := by decide +kernel
theorem dX10_isLeaf_68 : decode cX10_isLeaf 68 = .ok (.getfield 37, 3) := by decide +kernel
theorem dX10_isLeaf_71 : decode cX10_isLeaf 71 = .ok (.bipush 109, 2) := by decide +kernel
theorem dX10_isLeaf_73 : decode cX10_isLeaf 73 = .ok (.iload 5, 2) := by decide +kernel
theorem dX10_isLeaf_75 : decode cX10_isLeaf 75 = .ok (.iadd, 1) := by decide +kernel
theorem dX10_isLeaf_76 : decode cX10_isLeaf 76 = .ok (.iaload, 1) := by decide +kernel
theorem dX10_isLeaf_77 : decode cX10_isLeaf 77 = .ok (.aload_n 0, 1) := by decide +kernel
theorem dX10_isLeaf_78 : decode cX10_isLeaf 78 = .ok (.getfield 37, 3) := by decide +kernel
theorem dX10_isLeaf_81 : decode cX10_isLeaf 81 = .ok (.bipush 109, 2) := by decide +kernel
theorem dX10_isLeaf_83 : decode cX10_isLeaf 83 = .ok (.aload_n 0, 1) := by decide +kernel
theorem dX10_isLeaf_84 : decode cX10_isLeaf 84 = .ok (.iload 4, 2) := by decide +kernel
theorem dX10_isLeaf_86 : decode cX10_isLeaf 86 = .ok (.invokevirtual 288, 3) := by decide +kernel
theorem dX10_isLeaf_89 : decode cX10_isLeaf 89 = .ok (.iadd, 1) := by decide +kernel
theorem dX10_isLeaf_90 : decode cX10_isLeaf 90 = .ok (.iaload, 1) := by decide +kernel
theorem dX10_isLeaf_91 : decode cX10_isLeaf 91 = .ok (.if_icmp .ge 7, 3) := by decide +kernel
theorem dX10_isLeaf_94 : decode cX10_isLeaf 94 = .ok (.iconst 1, 1) := by decide +kernel
theorem dX10_isLeaf_95 : decode cX10_isLeaf 95 = .ok (.goto 4, 3) := by decide +kernel
theorem dX10_isLeaf_98 : decode cX10_isLeaf 98 = .ok (.iconst 0, 1) := by decide +kernel
theorem dX10_isLeaf_99 : decode cX10_isLeaf 99 = .ok (.ireturn, 1) := by decide +kernel
theorem dX10_isLeaf_100 : decode cX10_isLeaf 100 = .ok (.iload_n 2, 1) := by decide +kernel
theorem dX10_isLeaf_101 : decode cX10_isLeaf 101 = .ok (.iconst 3, 1) := by decide +kernel
theorem dX10_isLeaf_102 : decode cX10_isLeaf 102 = .ok (.if_icmp .ne 15, 3) := by decide +kernel
theorem dX10_isLeaf_105 : decode cX10_isLeaf 105 = .ok (.aload_n 0, 1) := by decide +kernel
theorem dX10_isLeaf_106 : decode cX10_isLeaf 106 = .ok (.getfield 37, 3) := by decide +kernel
theorem dX10_isLeaf_109 : decode cX10_isLeaf 109 = .ok (.bipush 8, 2) := by decide +kernel
theorem dX10_isLeaf_111 : decode cX10_isLeaf 111 = .ok (.iload_n 1, 1) := by decide +kernel
theorem dX10_isLeaf_112 : decode cX10_isLeaf 112 = .ok (.iadd, 1) := by decide +kernel
theorem dX10_isLeaf_113 : decode cX10_isLeaf 113 = .ok (.iaload, 1) := by decide +kernel
theorem dX10_isLeaf_114 : decode cX10_isLeaf 114 = .ok (.goto 38, 3) := by decide +kernel
theorem dX10_isLeaf_117 : decode cX10_isLeaf 117 = .ok (.iload_n 2, 1) := by decide +kernel
theorem dX10_isLeaf_118 : decode cX10_isLeaf 118 = .ok (.iconst 4, 1) := by decide +kernel
theorem dX10_isLeaf_119 : decode cX10_isLeaf 119 = .ok (.if_icmp .ne 15, 3) := by decide +kernel
theorem dX10_isLeaf_122 : decode cX10_isLeaf 122 = .ok (.aload_n 0, 1) := by decide +kernel
theorem dX10_isLeaf_123 : decode cX10_isLeaf 123 = .ok (.getfield 37, 3) := by decide +kernel
theorem dX10_isLeaf_126 : decode cX10_isLeaf 126 = .ok (.bipush 20, 2) := by decide +kernel
theorem dX10_isLeaf_128 : decode cX10_isLeaf 128 = .ok (.iload_n 1, 1) := by decide +kernel
theorem dX10_isLeaf_129 : decode cX10_isLeaf 129 = .ok (.iadd, 1) := by decide +kernel
theorem dX10_isLeaf_130 : decode cX10_isLeaf 130 = .ok (.iaload, 1) := by decide +kernel
theorem dX10_isLeaf_131 : decode cX10_isLeaf 131 = .ok (.goto 21, 3) := by decide +kernel
theorem dX10_isLeaf_134 : decode cX10_isLeaf 134 = .ok (.iload_n 2, 1) := by decide +kernel
theorem dX10_isLeaf_135 : decode cX10_isLeaf 135 = .ok (.iconst 5, 1) := by decide +kernel
theorem dX10_isLeaf_136 : decode cX10_isLeaf 136 = .ok (.if_icmp .ne 15, 3) := by decide +kernel
theorem dX10_isLeaf_139 : decode cX10_isLeaf 139 = .ok (.aload_n 0, 1) := by decide +kernel
theorem dX10_isLeaf_140 : decode cX10_isLeaf 140 = .ok (.getfield 37, 3) := by decide +kernel
theorem dX10_isLeaf_143 : decode cX10_isLeaf 143 = .ok (.bipush 32, 2) := by decide +kernel
theorem dX10_isLeaf_145 : decode cX10_isLeaf 145 = .ok (.iload_n 1, 1) := by decide +kernel
theorem dX10_isLeaf_146 : decode cX10_isLeaf 146 = .ok (.iadd, 1) := by decide +kernel
theorem dX10_isLeaf_147 : decode cX10_isLeaf 147 = .ok (.iaload, 1) := by decide +kernel
theorem dX10_isLeaf_148 : decode cX10_isLeaf 148 = .ok (.goto 4, 3) := by decide +kernel
theorem dX10_isLeaf_151 : decode cX10_isLeaf 151 = .ok (.iload_n 1, 1) := by decide +kernel
theorem dX10_isLeaf_152 : decode cX10_isLeaf 152 = .ok (.istore 6, 2) := by decide +kernel
theorem dX10_isLeaf_154 : decode cX10_isLeaf 154 = .ok (.iload_n 3, 1) := by decide +kernel
theorem dX10_isLeaf_155 : decode cX10_isLeaf 155 = .ok (.bipush 60, 2) := by decide +kernel
theorem dX10_isLeaf_157 : decode cX10_isLeaf 157 = .ok (.if_icmp .ne 18, 3) := by decide +kernel
theorem dX10_isLeaf_160 : decode cX10_isLeaf 160 = .ok (.iload 6, 2) := by decide +kernel
theorem dX10_isLeaf_162 : decode cX10_isLeaf 162 = .ok (.iload 4, 2) := by decide +kernel
theorem dX10_isLeaf_164 : decode cX10_isLeaf 164 = .ok (.if_icmp .ge 7, 3) := by decide +kernel
theorem dX10_isLeaf_167 : decode cX10_isLeaf 167 = .ok (.iconst 1, 1) := by decide +kernel
theorem dX10_isLeaf_168 : decode cX10_isLeaf 168 = .ok (.goto 40, 3) := by decide +kernel
theorem dX10_isLeaf_171 : decode cX10_isLeaf 171 = .ok (.iconst 0, 1) := by decide +kernel
theorem dX10_isLeaf_172 : decode cX10_isLeaf 172 = .ok (.goto 36, 3) := by decide +kernel
theorem dX10_isLeaf_175 : decode cX10_isLeaf 175 = .ok (.iload_n 3, 1) := by decide +kernel
theorem dX10_isLeaf_176 : decode cX10_isLeaf 176 = .ok (.bipush 61, 2) := by decide +kernel
theorem dX10_isLeaf_178 : decode cX10_isLeaf 178 = .ok (.if_icmp .ne 18, 3) := by decide +kernel
theorem dX10_isLeaf_181 : decode cX10_isLeaf 181 = .ok (.iload 6, 2) := by decide +kernel
theorem dX10_isLeaf_183 : decode cX10_isLeaf 183 = .ok (.iload 4, 2) := by decide +kernel
theorem dX10_isLeaf_185 : decode cX10_isLeaf 185 = .ok (.if_icmp .ne 7, 3) := by decide +kernel
theorem dX10_isLeaf_188 : decode cX10_isLeaf 188 = .ok (.iconst 1, 1) := by decide +kernel
theorem dX10_isLeaf_189 : decode cX10_isLeaf 189 = .ok (.goto 19, 3) := by decide +kernel
theorem dX10_isLeaf_192 : decode cX10_isLeaf 192 = .ok (.iconst 0, 1) := by decide +kernel
theorem dX10_isLeaf_193 : decode cX10_isLeaf 193 = .ok (.goto 15, 3) := by decide +kernel
theorem dX10_isLeaf_196 : decode cX10_isLeaf 196 = .ok (.iload 6, 2) := by decide +kernel
theorem dX10_isLeaf_198 : decode cX10_isLeaf 198 = .ok (.iload 4, 2) := by decide +kernel
theorem dX10_isLeaf_200 : decode cX10_isLeaf 200 = .ok (.if_icmp .le 7, 3) := by decide +kernel
theorem dX10_isLeaf_203 : decode cX10_isLeaf 203 = .ok (.iconst 1, 1) := by decide +kernel
theorem dX10_isLeaf_204 : decode cX10_isLeaf 204 = .ok (.goto 4, 3) := by decide +kernel
theorem dX10_isLeaf_207 : decode cX10_isLeaf 207 = .ok (.iconst 0, 1) := by decide +kernel
theorem dX10_isLeaf_208 : decode cX10_isLeaf 208 = .ok (.ireturn, 1) := by decide +kernel
theorem dX10_image_0 : decode cX10_image 0 = .ok (.aload_n 0, 1) := by decide +kernel
theorem dX10_image_1 : decode cX10_image 1 = .ok (.iconst 0, 1) := by decide +kernel
theorem dX10_image_2 : decode cX10_image 2 = .ok (.putfield 1, 3) := by decide +kernel
theorem dX10_image_5 : decode cX10_image 5 = .ok (.iload_n 1, 1) := by decide +kernel
theorem dX10_image_6 : decode cX10_image 6 = .ok (.iconst 0, 1) := by decide +kernel
theorem dX10_image_7 : decode cX10_image 7 = .ok (.iconst 1, 1) := by decide +kernel
theorem dX10_image_8 : decode cX10_image 8 = .ok (.invokestatic 211, 3) := by decide +kernel
theorem dX10_image_11 : decode cX10_image 11 = .ok (.ifCond .ne 5, 3) := by decide +kernel
theorem dX10_image_14 : decode cX10_image 14 = .ok (.iconst 0, 1) := by decide +kernel
theorem dX10_image_15 : decode cX10_image 15 = .ok (.ireturn, 1) := by decide +kernel
theorem dX10_image_16 : decode cX10_image 16 = .ok (.iconst 0, 1) := by decide +kernel
theorem dX10_image_17 : decode cX10_image 17 = .ok (.istore_n 2, 1) := by decide +kernel
theorem dX10_image_18 : decode cX10_image 18 = .ok (.iload_n 2, 1) := by decide +kernel
theorem dX10_image_19 : decode cX10_image 19 = .ok (.sipush 335, 3) := by decide +kernel
theorem dX10_image_22 : decode cX10_image 22 = .ok (.if_icmp .ge 27, 3) := by decide +kernel
theorem dX10_image_25 : decode cX10_image 25 = .ok (.aload_n 0, 1) := by decide +kernel
theorem dX10_image_26 : decode cX10_image 26 = .ok (.getfield 111, 3) := by decide +kernel
theorem dX10_image_29 : decode cX10_image 29 = .ok (.sipush 335, 3) := by decide +kernel
theorem dX10_image_32 : decode cX10_image 32 = .ok (.iload_n 1, 1) := by decide +kernel
theorem dX10_image_33 : decode cX10_image 33 = .ok (.imul, 1) := by decide +kernel
theorem dX10_image_34 : decode cX10_image 34 = .ok (.iload_n 2, 1) := by decide +kernel
theorem dX10_image_35 : decode cX10_image 35 = .ok (.iadd, 1) := by decide +kernel
theorem dX10_image_36 : decode cX10_image 36 = .ok (.aload_n 0, 1) := by decide +kernel
theorem dX10_image_37 : decode cX10_image 37 = .ok (.getfield 37, 3) := by decide +kernel
theorem dX10_image_40 : decode cX10_image 40 = .ok (.iload_n 2, 1) := by decide +kernel
theorem dX10_image_41 : decode cX10_image 41 = .ok (.iaload, 1) := by decide +kernel
theorem dX10_image_42 : decode cX10_image 42 = .ok (.iastore, 1) := by decide +kernel
theorem dX10_image_43 : decode cX10_image 43 = .ok (.iinc 2 1, 3) := by decide +kernel
theorem dX10_image_46 : decode cX10_image 46 = .ok (.goto (-28), 3) := by decide +kernel
theorem dX10_image_49 : decode cX10_image 49 = .ok (.iconst 0, 1) := by decide +kernel
theorem dX10_image_50 : decode cX10_image 50 = .ok (.istore_n 2, 1) := by decide +kernel
theorem dX10_image_51 : decode cX10_image 51 = .ok (.iload_n 2, 1) := by decide +kernel
theorem dX10_image_52 : decode cX10_image 52 = .ok (.bipush 18, 2) := by decide +kernel
theorem dX10_image_54 : decode cX10_image 54 = .ok (.if_icmp .ge 26, 3) := by decide +kernel
theorem dX10_image_57 : decode cX10_image 57 = .ok (.aload_n 0, 1) := by decide +kernel
theorem dX10_image_58 : decode cX10_image 58 = .ok (.getfield 114, 3) := by decide +kernel
theorem dX10_image_61 : decode cX10_image 61 = .ok (.bipush 18, 2) := by decide +kernel
theorem dX10_image_63 : decode cX10_image 63 = .ok (.iload_n 1, 1) := by decide +kernel
theorem dX10_image_64 : decode cX10_image 64 = .ok (.imul, 1) := by decide +kernel
theorem dX10_image_65 : decode cX10_image 65 = .ok (.iload_n 2, 1) := by decide +kernel
theorem dX10_image_66 : decode cX10_image 66 = .ok (.iadd, 1) := by decide +kernel
theorem dX10_image_67 : decode cX10_image 67 = .ok (.aload_n 0, 1) := by decide +kernel
theorem dX10_image_68 : decode cX10_image 68 = .ok (.getfield 47, 3) := by decide +kernel
theorem dX10_image_71 : decode cX10_image 71 = .ok (.iload_n 2, 1) := by decide +kernel
theorem dX10_image_72 : decode cX10_image 72 = .ok (.laload, 1) := by decide +kernel
theorem dX10_image_73 : decode cX10_image 73 = .ok (.lastore, 1) := by decide +kernel
theorem dX10_image_74 : decode cX10_image 74 = .ok (.iinc 2 1, 3) := by decide +kernel
theorem dX10_image_77 : decode cX10_image 77 = .ok (.goto (-26), 3) := by decide +kernel
theorem dX10_image_80 : decode cX10_image 80 = .ok (.aload_n 0, 1) := by decide +kernel
theorem dX10_image_81 : decode cX10_image 81 = .ok (.getfield 117, 3) := by decide +kernel
theorem dX10_image_84 : decode cX10_image 84 = .ok (.iload_n 1, 1) := by decide +kernel
theorem dX10_image_85 : decode cX10_image 85 = .ok (.iconst 1, 1) := by decide +kernel
theorem dX10_image_86 : decode cX10_image 86 = .ok (.bastore, 1) := by decide +kernel
theorem dX10_image_87 : decode cX10_image 87 = .ok (.iconst 1, 1) := by decide +kernel
theorem dX10_image_88 : decode cX10_image 88 = .ok (.ireturn, 1) := by decide +kernel
theorem dX10_restore_0 : decode cX10_restore 0 = .ok (.aload_n 0, 1) := by decide +kernel
theorem dX10_restore_1 : decode cX10_restore 1 = .ok (.iconst 0, 1) := by decide +kernel
theorem dX10_restore_2 : decode cX10_restore 2 = .ok (.putfield 1, 3) := by decide +kernel
theorem dX10_restore_5 : decode cX10_restore 5 = .ok (.iload_n 1, 1) := by decide +kernel
theorem dX10_restore_6 : decode cX10_restore 6 = .ok (.iconst 0, 1) := by decide +kernel
theorem dX10_restore_7 : decode cX10_restore 7 = .ok (.iconst 1, 1) := by decide +kernel
theorem dX10_restore_8 : decode cX10_restore 8 = .ok (.invokestatic 211, 3) := by decide +kernel
theorem dX10_restore_11 : decode cX10_restore 11 = .ok (.ifCond .eq 12, 3) := by decide +kernel
theorem dX10_restore_14 : decode cX10_restore 14 = .ok (.aload_n 0, 1) := by decide +kernel
theorem dX10_restore_15 : decode cX10_restore 15 = .ok (.getfield 117, 3) := by decide +kernel
theorem dX10_restore_18 : decode cX10_restore 18 = .ok (.iload_n 1, 1) := by decide +kernel
theorem dX10_restore_19 : decode cX10_restore 19 = .ok (.baload, 1) := by decide +kernel
theorem dX10_restore_20 : decode cX10_restore 20 = .ok (.ifCond .ne 5, 3) := by decide +kernel
theorem dX10_restore_23 : decode cX10_restore 23 = .ok (.iconst 0, 1) := by decide +kernel
theorem dX10_restore_24 : decode cX10_restore 24 = .ok (.ireturn, 1) := by decide +kernel
theorem dX10_restore_25 : decode cX10_restore 25 = .ok (.iconst 0, 1) := by decide +kernel
theorem dX10_restore_26 : decode cX10_restore 26 = .ok (.istore_n 2, 1) := by decide +kernel
theorem dX10_restore_27 : decode cX10_restore 27 = .ok (.iload_n 2, 1) := by decide +kernel
theorem dX10_restore_28 : decode cX10_restore 28 = .ok (.sipush 335, 3) := by decide +kernel
theorem dX10_restore_31 : decode cX10_restore 31 = .ok (.if_icmp .ge 27, 3) := by decide +kernel
theorem dX10_restore_34 : decode cX10_restore 34 = .ok (.aload_n 0, 1) := by decide +kernel
theorem dX10_restore_35 : decode cX10_restore 35 = .ok (.getfield 37, 3) := by decide +kernel
theorem dX10_restore_38 : decode cX10_restore 38 = .ok (.iload_n 2, 1) := by decide +kernel
theorem dX10_restore_39 : decode cX10_restore 39 = .ok (.aload_n 0, 1) := by decide +kernel
theorem dX10_restore_40 : decode cX10_restore 40 = .ok (.getfield 111, 3) := by decide +kernel
theorem dX10_restore_43 : decode cX10_restore 43 = .ok (.sipush 335, 3) := by decide +kernel
theorem dX10_restore_46 : decode cX10_restore 46 = .ok (.iload_n 1, 1) := by decide +kernel
theorem dX10_restore_47 : decode cX10_restore 47 = .ok (.imul, 1) := by decide +kernel
theorem dX10_restore_48 : decode cX10_restore 48 = .ok (.iload_n 2, 1) := by decide +kernel
theorem dX10_restore_49 : decode cX10_restore 49 = .ok (.iadd, 1) := by decide +kernel
theorem dX10_restore_50 : decode cX10_restore 50 = .ok (.iaload, 1) := by decide +kernel
theorem dX10_restore_51 : decode cX10_restore 51 = .ok (.iastore, 1) := by decide +kernel
theorem dX10_restore_52 : decode cX10_restore 52 = .ok (.iinc 2 1, 3) := by decide +kernel
theorem dX10_restore_55 : decode cX10_restore 55 = .ok (.goto (-28), 3) := by decide +kernel
theorem dX10_restore_58 : decode cX10_restore 58 = .ok (.iconst 0, 1) := by decide +kernel
theorem dX10_restore_59 : decode cX10_restore 59 = .ok (.istore_n 2, 1) := by decide +kernel
theorem dX10_restore_60 : decode cX10_restore 60 = .ok (.iload_n 2, 1) := by decide +kernel
theorem dX10_restore_61 : decode cX10_restore 61 = .ok (.bipush 18, 2) := by decide +kernel
theorem dX10_restore_63 : decode cX10_restore 63 = .ok (.if_icmp .ge 26, 3) := by decide +kernel
theorem dX10_restore_66 : decode cX10_restore 66 = .ok (.aload_n 0, 1) := by decide +kernel
theorem dX10_restore_67 : decode cX10_restore 67 = .ok (.getfield 47, 3) := by decide +kernel
theorem dX10_restore_70 : decode cX10_restore 70 = .ok (.iload_n 2, 1) := by decide +kernel
theorem dX10_restore_71 : decode cX10_restore 71 = .ok (.aload_n 0, 1) := by decide +kernel
theorem dX10_restore_72 : decode cX10_restore 72 = .ok (.getfield 114, 3) := by decide +kernel
theorem dX10_restore_75 : decode cX10_restore 75 = .ok (.bipush 18, 2) := by decide +kernel
theorem dX10_restore_77 : decode cX10_restore 77 = .ok (.iload_n 1, 1) := by decide +kernel
theorem dX10_restore_78 : decode cX10_restore 78 = .ok (.imul, 1) := by decide +kernel
theorem dX10_restore_79 : decode cX10_restore 79 = .ok (.iload_n 2, 1) := by decide +kernel
theorem dX10_restore_80 : decode cX10_restore 80 = .ok (.iadd, 1) := by decide +kernel
theorem dX10_restore_81 : decode cX10_restore 81 = .ok (.laload, 1) := by decide +kernel
theorem dX10_restore_82 : decode cX10_restore 82 = .ok (.lastore, 1) := by decide +kernel
theorem dX10_restore_83 : decode cX10_restore 83 = .ok (.iinc 2 1, 3) := by decide +kernel
theorem dX10_restore_86 : decode cX10_restore 86 = .ok (.goto (-26), 3) := by decide +kernel
theorem dX10_restore_89 : decode cX10_restore 89 = .ok (.aload_n 0, 1) := by decide +kernel
theorem dX10_restore_90 : decode cX10_restore 90 = .ok (.iconst 0, 1) := by decide +kernel
theorem dX10_restore_91 : decode cX10_restore 91 = .ok (.putfield 263, 3) := by decide +kernel
theorem dX10_restore_94 : decode cX10_restore 94 = .ok (.iconst 1, 1) := by decide +kernel
theorem dX10_restore_95 : decode cX10_restore 95 = .ok (.ireturn, 1) := by decide +kernel
theorem dX10_count_0 : decode cX10_count 0 = .ok (.aload_n 0, 1) := by decide +kernel
theorem dX10_count_1 : decode cX10_count 1 = .ok (.iconst 0, 1) := by decide +kernel
theorem dX10_count_2 : decode cX10_count 2 = .ok (.putfield 1, 3) := by decide +kernel
theorem dX10_count_5 : decode cX10_count 5 = .ok (.iload_n 1, 1) := by decide +kernel
theorem dX10_count_6 : decode cX10_count 6 = .ok (.tableswitch 85 8 12 #[34, 42, 64, 72, 80], 34) := by decide +kernel
theorem dX10_count_40 : decode cX10_count 40 = .ok (.aload_n 0, 1) := by decide +kernel
theorem dX10_count_41 : decode cX10_count 41 = .ok (.getfield 37, 3) := by decide +kernel
theorem dX10_count_44 : decode cX10_count 44 = .ok (.bipush 113, 2) := by decide +kernel
theorem dX10_count_46 : decode cX10_count 46 = .ok (.iaload, 1) := by decide +kernel
theorem dX10_count_47 : decode cX10_count 47 = .ok (.ireturn, 1) := by decide +kernel
theorem dX10_count_48 : decode cX10_count 48 = .ok (.aload_n 0, 1) := by decide +kernel
theorem dX10_count_49 : decode cX10_count 49 = .ok (.getfield 37, 3) := by decide +kernel
theorem dX10_count_52 : decode cX10_count 52 = .ok (.bipush 7, 2) := by decide +kernel
theorem dX10_count_54 : decode cX10_count 54 = .ok (.iaload, 1) := by decide +kernel
theorem dX10_count_55 : decode cX10_count 55 = .ok (.ifCond .ne 7, 3) := by decide +kernel
theorem dX10_count_58 : decode cX10_count 58 = .ok (.iconst (-1), 1) := by decide +kernel
theorem dX10_count_59 : decode cX10_count 59 = .ok (.goto 10, 3) := by decide +kernel
theorem dX10_count_62 : decode cX10_count 62 = .ok (.aload_n 0, 1) := by decide +kernel
theorem dX10_count_63 : decode cX10_count 63 = .ok (.getfield 37, 3) := by decide +kernel
theorem dX10_count_66 : decode cX10_count 66 = .ok (.bipush 114, 2) := by decide +kernel
theorem dX10_count_68 : decode cX10_count 68 = .ok (.iaload, 1) := by decide +kernel
theorem dX10_count_69 : decode cX10_count 69 = .ok (.ireturn, 1) := by decide +kernel
theorem dX10_count_70 : decode cX10_count 70 = .ok (.aload_n 0, 1) := by decide +kernel
theorem dX10_count_71 : decode cX10_count 71 = .ok (.getfield 37, 3) := by decide +kernel
theorem dX10_count_74 : decode cX10_count 74 = .ok (.bipush 115, 2) := by decide +kernel
theorem dX10_count_76 : decode cX10_count 76 = .ok (.iaload, 1) := by decide +kernel
theorem dX10_count_77 : decode cX10_count 77 = .ok (.ireturn, 1) := by decide +kernel
theorem dX10_count_78 : decode cX10_count 78 = .ok (.aload_n 0, 1) := by decide +kernel
theorem dX10_count_79 : decode cX10_count 79 = .ok (.getfield 37, 3) := by decide +kernel
theorem dX10_count_82 : decode cX10_count 82 = .ok (.bipush 104, 2) := by decide +kernel
theorem dX10_count_84 : decode cX10_count 84 = .ok (.iaload, 1) := by decide +kernel
theorem dX10_count_85 : decode cX10_count 85 = .ok (.ireturn, 1) := by decide +kernel
theorem dX10_count_86 : decode cX10_count 86 = .ok (.aload_n 0, 1) := by decide +kernel
theorem dX10_count_87 : decode cX10_count 87 = .ok (.getfield 7, 3) := by decide +kernel
theorem dX10_count_90 : decode cX10_count 90 = .ok (.ireturn, 1) := by decide +kernel
theorem dX10_count_91 : decode cX10_count 91 = .ok (.iload_n 1, 1) := by decide +kernel
theorem dX10_count_92 : decode cX10_count 92 = .ok (.iconst 0, 1) := by decide +kernel
theorem dX10_count_93 : decode cX10_count 93 = .ok (.bipush 7, 2) := by decide +kernel
theorem dX10_count_95 : decode cX10_count 95 = .ok (.invokestatic 211, 3) := by decide +kernel
theorem dX10_count_98 : decode cX10_count 98 = .ok (.ifCond .eq 12, 3) := by decide +kernel
theorem dX10_count_101 : decode cX10_count 101 = .ok (.aload_n 0, 1) := by decide +kernel
theorem dX10_count_102 : decode cX10_count 102 = .ok (.getfield 37, 3) := by decide +kernel
theorem dX10_count_105 : decode cX10_count 105 = .ok (.iload_n 1, 1) := by decide +kernel
theorem dX10_count_106 : decode cX10_count 106 = .ok (.iaload, 1) := by decide +kernel
theorem dX10_count_107 : decode cX10_count 107 = .ok (.goto 4, 3) := by decide +kernel
theorem dX10_count_110 : decode cX10_count 110 = .ok (.iconst (-1), 1) := by decide +kernel
theorem dX10_count_111 : decode cX10_count 111 = .ok (.ireturn, 1) := by decide +kernel
