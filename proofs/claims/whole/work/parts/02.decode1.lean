theorem dX0_init_0 : decode cX0_init 0 = .ok (.aload_n 0, 1) := by decide +kernel
theorem dX0_init_1 : decode cX0_init 1 = .ok (.invokespecial 1, 3) := by decide +kernel
theorem dX0_init_4 : decode cX0_init 4 = .ok (.return_, 1) := by decide +kernel
theorem dX0_fits_0 : decode cX0_fits 0 = .ok (.iload_n 0, 1) := by decide +kernel
theorem dX0_fits_1 : decode cX0_fits 1 = .ok (.ifCond .lt 33, 3) := by decide +kernel
theorem dX0_fits_4 : decode cX0_fits 4 = .ok (.iload_n 0, 1) := by decide +kernel
theorem dX0_fits_5 : decode cX0_fits 5 = .ok (.bipush 6, 2) := by decide +kernel
theorem dX0_fits_7 : decode cX0_fits 7 = .ok (.if_icmp .ge 27, 3) := by decide +kernel
theorem dX0_fits_10 : decode cX0_fits 10 = .ok (.iload_n 1, 1) := by decide +kernel
theorem dX0_fits_11 : decode cX0_fits 11 = .ok (.ifCond .lt 23, 3) := by decide +kernel
theorem dX0_fits_14 : decode cX0_fits 14 = .ok (.iload_n 1, 1) := by decide +kernel
theorem dX0_fits_15 : decode cX0_fits 15 = .ok (.bipush 9, 2) := by decide +kernel
theorem dX0_fits_17 : decode cX0_fits 17 = .ok (.if_icmp .gt 17, 3) := by decide +kernel
theorem dX0_fits_20 : decode cX0_fits 20 = .ok (.iload_n 2, 1) := by decide +kernel
theorem dX0_fits_21 : decode cX0_fits 21 = .ok (.ifCond .lt 13, 3) := by decide +kernel
theorem dX0_fits_24 : decode cX0_fits 24 = .ok (.iload_n 2, 1) := by decide +kernel
theorem dX0_fits_25 : decode cX0_fits 25 = .ok (.bipush 9, 2) := by decide +kernel
theorem dX0_fits_27 : decode cX0_fits 27 = .ok (.if_icmp .gt 7, 3) := by decide +kernel
theorem dX0_fits_30 : decode cX0_fits 30 = .ok (.iconst 1, 1) := by decide +kernel
theorem dX0_fits_31 : decode cX0_fits 31 = .ok (.goto 4, 3) := by decide +kernel
theorem dX0_fits_34 : decode cX0_fits 34 = .ok (.iconst 0, 1) := by decide +kernel
theorem dX0_fits_35 : decode cX0_fits 35 = .ok (.ireturn, 1) := by decide +kernel
theorem dX0_become_0 : decode cX0_become 0 = .ok (.aload_n 0, 1) := by decide +kernel
theorem dX0_become_1 : decode cX0_become 1 = .ok (.iload_n 1, 1) := by decide +kernel
theorem dX0_become_2 : decode cX0_become 2 = .ok (.putfield 9, 3) := by decide +kernel
theorem dX0_become_5 : decode cX0_become 5 = .ok (.aload_n 0, 1) := by decide +kernel
theorem dX0_become_6 : decode cX0_become 6 = .ok (.iload_n 2, 1) := by decide +kernel
theorem dX0_become_7 : decode cX0_become 7 = .ok (.putfield 13, 3) := by decide +kernel
theorem dX0_become_10 : decode cX0_become 10 = .ok (.aload_n 0, 1) := by decide +kernel
theorem dX0_become_11 : decode cX0_become 11 = .ok (.iload_n 3, 1) := by decide +kernel
theorem dX0_become_12 : decode cX0_become 12 = .ok (.putfield 16, 3) := by decide +kernel
theorem dX0_become_15 : decode cX0_become 15 = .ok (.return_, 1) := by decide +kernel
theorem dX0_minutesLong_0 : decode cX0_minutesLong 0 = .ok (.aload_n 0, 1) := by decide +kernel
theorem dX0_minutesLong_1 : decode cX0_minutesLong 1 = .ok (.getfield 9, 3) := by decide +kernel
theorem dX0_minutesLong_4 : decode cX0_minutesLong 4 = .ok (.lookupswitch 52 #[(0, 36), (3, 36), (5, 43)], 36) := by decide +kernel
theorem dX0_minutesLong_40 : decode cX0_minutesLong 40 = .ok (.iconst 1, 1) := by decide +kernel
theorem dX0_minutesLong_41 : decode cX0_minutesLong 41 = .ok (.aload_n 0, 1) := by decide +kernel
theorem dX0_minutesLong_42 : decode cX0_minutesLong 42 = .ok (.getfield 13, 3) := by decide +kernel
theorem dX0_minutesLong_45 : decode cX0_minutesLong 45 = .ok (.iadd, 1) := by decide +kernel
theorem dX0_minutesLong_46 : decode cX0_minutesLong 46 = .ok (.ireturn, 1) := by decide +kernel
theorem dX0_minutesLong_47 : decode cX0_minutesLong 47 = .ok (.iconst 1, 1) := by decide +kernel
theorem dX0_minutesLong_48 : decode cX0_minutesLong 48 = .ok (.aload_n 0, 1) := by decide +kernel
theorem dX0_minutesLong_49 : decode cX0_minutesLong 49 = .ok (.getfield 13, 3) := by decide +kernel
theorem dX0_minutesLong_52 : decode cX0_minutesLong 52 = .ok (.invokestatic 19, 3) := by decide +kernel
theorem dX0_minutesLong_55 : decode cX0_minutesLong 55 = .ok (.ireturn, 1) := by decide +kernel
theorem dX0_minutesLong_56 : decode cX0_minutesLong 56 = .ok (.iconst 1, 1) := by decide +kernel
theorem dX0_minutesLong_57 : decode cX0_minutesLong 57 = .ok (.ireturn, 1) := by decide +kernel
theorem dX0_isStirred_0 : decode cX0_isStirred 0 = .ok (.aload_n 0, 1) := by decide +kernel
theorem dX0_isStirred_1 : decode cX0_isStirred 1 = .ok (.getfield 9, 3) := by decide +kernel
theorem dX0_isStirred_4 : decode cX0_isStirred 4 = .ok (.ifCond .eq 7, 3) := by decide +kernel
theorem dX0_isStirred_7 : decode cX0_isStirred 7 = .ok (.iconst 1, 1) := by decide +kernel
theorem dX0_isStirred_8 : decode cX0_isStirred 8 = .ok (.goto 4, 3) := by decide +kernel
theorem dX0_isStirred_11 : decode cX0_isStirred 11 = .ok (.iconst 0, 1) := by decide +kernel
theorem dX0_isStirred_12 : decode cX0_isStirred 12 = .ok (.ireturn, 1) := by decide +kernel
theorem dX0_isOne_0 : decode cX0_isOne 0 = .ok (.iload_n 1, 1) := by decide +kernel
theorem dX0_isOne_1 : decode cX0_isOne 1 = .ok (.ifCond .eq 37, 3) := by decide +kernel
theorem dX0_isOne_4 : decode cX0_isOne 4 = .ok (.iload_n 1, 1) := by decide +kernel
theorem dX0_isOne_5 : decode cX0_isOne 5 = .ok (.aload_n 0, 1) := by decide +kernel
theorem dX0_isOne_6 : decode cX0_isOne 6 = .ok (.getfield 9, 3) := by decide +kernel
theorem dX0_isOne_9 : decode cX0_isOne 9 = .ok (.if_icmp .eq 29, 3) := by decide +kernel
theorem dX0_isOne_12 : decode cX0_isOne 12 = .ok (.iload_n 1, 1) := by decide +kernel
theorem dX0_isOne_13 : decode cX0_isOne 13 = .ok (.iconst 1, 1) := by decide +kernel
theorem dX0_isOne_14 : decode cX0_isOne 14 = .ok (.if_icmp .ne 11, 3) := by decide +kernel
theorem dX0_isOne_17 : decode cX0_isOne 17 = .ok (.aload_n 0, 1) := by decide +kernel
theorem dX0_isOne_18 : decode cX0_isOne 18 = .ok (.getfield 9, 3) := by decide +kernel
theorem dX0_isOne_21 : decode cX0_isOne 21 = .ok (.iconst 4, 1) := by decide +kernel
theorem dX0_isOne_22 : decode cX0_isOne 22 = .ok (.if_icmp .eq 16, 3) := by decide +kernel
theorem dX0_isOne_25 : decode cX0_isOne 25 = .ok (.iload_n 1, 1) := by decide +kernel
theorem dX0_isOne_26 : decode cX0_isOne 26 = .ok (.iconst 3, 1) := by decide +kernel
theorem dX0_isOne_27 : decode cX0_isOne 27 = .ok (.if_icmp .ne 15, 3) := by decide +kernel
theorem dX0_isOne_30 : decode cX0_isOne 30 = .ok (.aload_n 0, 1) := by decide +kernel
theorem dX0_isOne_31 : decode cX0_isOne 31 = .ok (.getfield 9, 3) := by decide +kernel
theorem dX0_isOne_34 : decode cX0_isOne 34 = .ok (.iconst 5, 1) := by decide +kernel
theorem dX0_isOne_35 : decode cX0_isOne 35 = .ok (.if_icmp .ne 7, 3) := by decide +kernel
theorem dX0_isOne_38 : decode cX0_isOne 38 = .ok (.iconst 1, 1) := by decide +kernel
theorem dX0_isOne_39 : decode cX0_isOne 39 = .ok (.goto 4, 3) := by decide +kernel
theorem dX0_isOne_42 : decode cX0_isOne 42 = .ok (.iconst 0, 1) := by decide +kernel
theorem dX0_isOne_43 : decode cX0_isOne 43 = .ok (.ireturn, 1) := by decide +kernel
theorem dX1_init_0 : decode cX1_init 0 = .ok (.aload_n 0, 1) := by decide +kernel
theorem dX1_init_1 : decode cX1_init 1 = .ok (.invokespecial 1, 3) := by decide +kernel
theorem dX1_init_4 : decode cX1_init 4 = .ok (.aload_n 0, 1) := by decide +kernel
theorem dX1_init_5 : decode cX1_init 5 = .ok (.iconst 5, 1) := by decide +kernel
theorem dX1_init_6 : decode cX1_init 6 = .ok (.newarray .int, 2) := by decide +kernel
theorem dX1_init_8 : decode cX1_init 8 = .ok (.putfield 7, 3) := by decide +kernel
theorem dX1_init_11 : decode cX1_init 11 = .ok (.return_, 1) := by decide +kernel
theorem dX1_hasPart_0 : decode cX1_hasPart 0 = .ok (.iload_n 0, 1) := by decide +kernel
theorem dX1_hasPart_1 : decode cX1_hasPart 1 = .ok (.ifCond .lt 12, 3) := by decide +kernel
theorem dX1_hasPart_4 : decode cX1_hasPart 4 = .ok (.iload_n 0, 1) := by decide +kernel
theorem dX1_hasPart_5 : decode cX1_hasPart 5 = .ok (.iconst 4, 1) := by decide +kernel
theorem dX1_hasPart_6 : decode cX1_hasPart 6 = .ok (.if_icmp .gt 7, 3) := by decide +kernel
theorem dX1_hasPart_9 : decode cX1_hasPart 9 = .ok (.iconst 1, 1) := by decide +kernel
theorem dX1_hasPart_10 : decode cX1_hasPart 10 = .ok (.goto 4, 3) := by decide +kernel
theorem dX1_hasPart_13 : decode cX1_hasPart 13 = .ok (.iconst 0, 1) := by decide +kernel
theorem dX1_hasPart_14 : decode cX1_hasPart 14 = .ok (.ireturn, 1) := by decide +kernel
theorem dX1_fits_0 : decode cX1_fits 0 = .ok (.iload_n 0, 1) := by decide +kernel
theorem dX1_fits_1 : decode cX1_fits 1 = .ok (.invokestatic 13, 3) := by decide +kernel
theorem dX1_fits_4 : decode cX1_fits 4 = .ok (.ifCond .eq 26, 3) := by decide +kernel
theorem dX1_fits_7 : decode cX1_fits 7 = .ok (.iload_n 1, 1) := by decide +kernel
theorem dX1_fits_8 : decode cX1_fits 8 = .ok (.iload_n 0, 1) := by decide +kernel
theorem dX1_fits_9 : decode cX1_fits 9 = .ok (.ifCond .ne 7, 3) := by decide +kernel
theorem dX1_fits_12 : decode cX1_fits 12 = .ok (.iconst 1, 1) := by decide +kernel
theorem dX1_fits_13 : decode cX1_fits 13 = .ok (.goto 4, 3) := by decide +kernel
theorem dX1_fits_16 : decode cX1_fits 16 = .ok (.iconst 0, 1) := by decide +kernel
theorem dX1_fits_17 : decode cX1_fits 17 = .ok (.if_icmp .lt 13, 3) := by decide +kernel
theorem dX1_fits_20 : decode cX1_fits 20 = .ok (.iload_n 1, 1) := by decide +kernel
theorem dX1_fits_21 : decode cX1_fits 21 = .ok (.bipush 99, 2) := by decide +kernel
theorem dX1_fits_23 : decode cX1_fits 23 = .ok (.if_icmp .gt 7, 3) := by decide +kernel
theorem dX1_fits_26 : decode cX1_fits 26 = .ok (.iconst 1, 1) := by decide +kernel
theorem dX1_fits_27 : decode cX1_fits 27 = .ok (.goto 4, 3) := by decide +kernel
theorem dX1_fits_30 : decode cX1_fits 30 = .ok (.iconst 0, 1) := by decide +kernel
theorem dX1_fits_31 : decode cX1_fits 31 = .ok (.ireturn, 1) := by decide +kernel
theorem dX1_tell_0 : decode cX1_tell 0 = .ok (.iload_n 1, 1) := by decide +kernel
theorem dX1_tell_1 : decode cX1_tell 1 = .ok (.invokestatic 13, 3) := by decide +kernel
theorem dX1_tell_4 : decode cX1_tell 4 = .ok (.ifCond .eq 12, 3) := by decide +kernel
theorem dX1_tell_7 : decode cX1_tell 7 = .ok (.aload_n 0, 1) := by decide +kernel
theorem dX1_tell_8 : decode cX1_tell 8 = .ok (.getfield 7, 3) := by decide +kernel
theorem dX1_tell_11 : decode cX1_tell 11 = .ok (.iload_n 1, 1) := by decide +kernel
theorem dX1_tell_12 : decode cX1_tell 12 = .ok (.iaload, 1) := by decide +kernel
theorem dX1_tell_13 : decode cX1_tell 13 = .ok (.goto 4, 3) := by decide +kernel
theorem dX1_tell_16 : decode cX1_tell 16 = .ok (.iconst 0, 1) := by decide +kernel
theorem dX1_tell_17 : decode cX1_tell 17 = .ok (.ireturn, 1) := by decide +kernel
theorem dX1_put_0 : decode cX1_put 0 = .ok (.iload_n 1, 1) := by decide +kernel
theorem dX1_put_1 : decode cX1_put 1 = .ok (.invokestatic 13, 3) := by decide +kernel
theorem dX1_put_4 : decode cX1_put 4 = .ok (.ifCond .eq 10, 3) := by decide +kernel
theorem dX1_put_7 : decode cX1_put 7 = .ok (.aload_n 0, 1) := by decide +kernel
theorem dX1_put_8 : decode cX1_put 8 = .ok (.getfield 7, 3) := by decide +kernel
theorem dX1_put_11 : decode cX1_put 11 = .ok (.iload_n 1, 1) := by decide +kernel
theorem dX1_put_12 : decode cX1_put 12 = .ok (.iload_n 2, 1) := by decide +kernel
theorem dX1_put_13 : decode cX1_put 13 = .ok (.iastore, 1) := by decide +kernel
theorem dX1_put_14 : decode cX1_put 14 = .ok (.return_, 1) := by decide +kernel
theorem dX1_becomeLike_0 : decode cX1_becomeLike 0 = .ok (.aload_n 1, 1) := by decide +kernel
theorem dX1_becomeLike_1 : decode cX1_becomeLike 1 = .ok (.getfield 7, 3) := by decide +kernel
theorem dX1_becomeLike_4 : decode cX1_becomeLike 4 = .ok (.iconst 0, 1) := by decide +kernel
theorem dX1_becomeLike_5 : decode cX1_becomeLike 5 = .ok (.aload_n 0, 1) := by decide +kernel
theorem dX1_becomeLike_6 : decode cX1_becomeLike 6 = .ok (.getfield 7, 3) := by decide +kernel
theorem dX1_becomeLike_9 : decode cX1_becomeLike 9 = .ok (.iconst 0, 1) := by decide +kernel
theorem dX1_becomeLike_10 : decode cX1_becomeLike 10 = .ok (.aload_n 0, 1) := by decide +kernel
theorem dX1_becomeLike_11 : decode cX1_becomeLike 11 = .ok (.getfield 7, 3) := by decide +kernel
theorem dX1_becomeLike_14 : decode cX1_becomeLike 14 = .ok (.arraylength, 1) := by decide +kernel
theorem dX1_becomeLike_15 : decode cX1_becomeLike 15 = .ok (.invokestatic 17, 3) := by decide +kernel
theorem dX1_becomeLike_18 : decode cX1_becomeLike 18 = .ok (.return_, 1) := by decide +kernel
theorem dX2_init_0 : decode cX2_init 0 = .ok (.aload_n 0, 1) := by decide +kernel
theorem dX2_init_1 : decode cX2_init 1 = .ok (.invokespecial 1, 3) := by decide +kernel
theorem dX2_init_4 : decode cX2_init 4 = .ok (.aload_n 0, 1) := by decide +kernel
theorem dX2_init_5 : decode cX2_init 5 = .ok (.aload_n 1, 1) := by decide +kernel
theorem dX2_init_6 : decode cX2_init 6 = .ok (.putfield 7, 3) := by decide +kernel
theorem dX2_init_9 : decode cX2_init 9 = .ok (.aload_n 0, 1) := by decide +kernel
theorem dX2_init_10 : decode cX2_init 10 = .ok (.iload_n 2, 1) := by decide +kernel
theorem dX2_init_11 : decode cX2_init 11 = .ok (.putfield 13, 3) := by decide +kernel
theorem dX2_init_14 : decode cX2_init 14 = .ok (.aload_n 0, 1) := by decide +kernel
theorem dX2_init_15 : decode cX2_init 15 = .ok (.iload_n 3, 1) := by decide +kernel
theorem dX2_init_16 : decode cX2_init 16 = .ok (.putfield 17, 3) := by decide +kernel
theorem dX2_init_19 : decode cX2_init 19 = .ok (.return_, 1) := by decide +kernel
theorem dX2_startOf_0 : decode cX2_startOf 0 = .ok (.iload_n 1, 1) := by decide +kernel
theorem dX2_startOf_1 : decode cX2_startOf 1 = .ok (.ifCond .ne 7, 3) := by decide +kernel
theorem dX2_startOf_4 : decode cX2_startOf 4 = .ok (.iconst 0, 1) := by decide +kernel
theorem dX2_startOf_5 : decode cX2_startOf 5 = .ok (.goto 19, 3) := by decide +kernel
theorem dX2_startOf_8 : decode cX2_startOf 8 = .ok (.iload_n 1, 1) := by decide +kernel
theorem dX2_startOf_9 : decode cX2_startOf 9 = .ok (.iconst 1, 1) := by decide +kernel
theorem dX2_startOf_10 : decode cX2_startOf 10 = .ok (.if_icmp .ne 10, 3) := by decide +kernel
theorem dX2_startOf_13 : decode cX2_startOf 13 = .ok (.aload_n 0, 1) := by decide +kernel
theorem dX2_startOf_14 : decode cX2_startOf 14 = .ok (.getfield 13, 3) := by decide +kernel
theorem dX2_startOf_17 : decode cX2_startOf 17 = .ok (.goto 7, 3) := by decide +kernel
theorem dX2_startOf_20 : decode cX2_startOf 20 = .ok (.aload_n 0, 1) := by decide +kernel
theorem dX2_startOf_21 : decode cX2_startOf 21 = .ok (.getfield 17, 3) := by decide +kernel
theorem dX2_startOf_24 : decode cX2_startOf 24 = .ok (.ireturn, 1) := by decide +kernel
theorem dX2_endOf_0 : decode cX2_endOf 0 = .ok (.iload_n 1, 1) := by decide +kernel
theorem dX2_endOf_1 : decode cX2_endOf 1 = .ok (.ifCond .ne 10, 3) := by decide +kernel
theorem dX2_endOf_4 : decode cX2_endOf 4 = .ok (.aload_n 0, 1) := by decide +kernel
theorem dX2_endOf_5 : decode cX2_endOf 5 = .ok (.getfield 13, 3) := by decide +kernel
theorem dX2_endOf_8 : decode cX2_endOf 8 = .ok (.goto 20, 3) := by decide +kernel
theorem dX2_endOf_11 : decode cX2_endOf 11 = .ok (.iload_n 1, 1) := by decide +kernel
theorem dX2_endOf_12 : decode cX2_endOf 12 = .ok (.iconst 1, 1) := by decide +kernel
theorem dX2_endOf_13 : decode cX2_endOf 13 = .ok (.if_icmp .ne 10, 3) := by decide +kernel
theorem dX2_endOf_16 : decode cX2_endOf 16 = .ok (.aload_n 0, 1) := by decide +kernel
theorem dX2_endOf_17 : decode cX2_endOf 17 = .ok (.getfield 17, 3) := by decide +kernel
theorem dX2_endOf_20 : decode cX2_endOf 20 = .ok (.goto 8, 3) := by decide +kernel
theorem dX2_endOf_23 : decode cX2_endOf 23 = .ok (.aload_n 0, 1) := by decide +kernel
theorem dX2_endOf_24 : decode cX2_endOf 24 = .ok (.getfield 7, 3) := by decide +kernel
theorem dX2_endOf_27 : decode cX2_endOf 27 = .ok (.arraylength, 1) := by decide +kernel
theorem dX2_endOf_28 : decode cX2_endOf 28 = .ok (.ireturn, 1) := by decide +kernel
theorem dX2_codeAt_0 : decode cX2_codeAt 0 = .ok (.iload_n 1, 1) := by decide +kernel
theorem dX2_codeAt_1 : decode cX2_codeAt 1 = .ok (.ifCond .lt 21, 3) := by decide +kernel
theorem dX2_codeAt_4 : decode cX2_codeAt 4 = .ok (.iload_n 1, 1) := by decide +kernel
theorem dX2_codeAt_5 : decode cX2_codeAt 5 = .ok (.aload_n 0, 1) := by decide +kernel
theorem dX2_codeAt_6 : decode cX2_codeAt 6 = .ok (.getfield 7, 3) := by decide +kernel
theorem dX2_codeAt_9 : decode cX2_codeAt 9 = .ok (.arraylength, 1) := by decide +kernel
theorem dX2_codeAt_10 : decode cX2_codeAt 10 = .ok (.if_icmp .ge 12, 3) := by decide +kernel
theorem dX2_codeAt_13 : decode cX2_codeAt 13 = .ok (.aload_n 0, 1) := by decide +kernel
theorem dX2_codeAt_14 : decode cX2_codeAt 14 = .ok (.getfield 7, 3) := by decide +kernel
theorem dX2_codeAt_17 : decode cX2_codeAt 17 = .ok (.iload_n 1, 1) := by decide +kernel
theorem dX2_codeAt_18 : decode cX2_codeAt 18 = .ok (.iaload, 1) := by decide +kernel
theorem dX2_codeAt_19 : decode cX2_codeAt 19 = .ok (.goto 4, 3) := by decide +kernel
theorem dX2_codeAt_22 : decode cX2_codeAt 22 = .ok (.iconst 0, 1) := by decide +kernel
theorem dX2_codeAt_23 : decode cX2_codeAt 23 = .ok (.ireturn, 1) := by decide +kernel
theorem dX2_joined_0 : decode cX2_joined 0 = .ok (.iload_n 0, 1) := by decide +kernel
theorem dX2_joined_1 : decode cX2_joined 1 = .ok (.tableswitch 97 (-26) (-21) #[93, 89, 78, 67, 53, 39], 39) := by decide +kernel
theorem dX2_joined_40 : decode cX2_joined 40 = .ok (.iload_n 1, 1) := by decide +kernel
theorem dX2_joined_41 : decode cX2_joined 41 = .ok (.ifCond .ne 7, 3) := by decide +kernel
theorem dX2_joined_44 : decode cX2_joined 44 = .ok (.iload_n 2, 1) := by decide +kernel
theorem dX2_joined_45 : decode cX2_joined 45 = .ok (.ifCond .eq 7, 3) := by decide +kernel
theorem dX2_joined_48 : decode cX2_joined 48 = .ok (.iconst 1, 1) := by decide +kernel
theorem dX2_joined_49 : decode cX2_joined 49 = .ok (.goto 4, 3) := by decide +kernel
theorem dX2_joined_52 : decode cX2_joined 52 = .ok (.iconst 0, 1) := by decide +kernel
theorem dX2_joined_53 : decode cX2_joined 53 = .ok (.ireturn, 1) := by decide +kernel
theorem dX2_joined_54 : decode cX2_joined 54 = .ok (.iload_n 1, 1) := by decide +kernel
theorem dX2_joined_55 : decode cX2_joined 55 = .ok (.ifCond .eq 11, 3) := by decide +kernel
theorem dX2_joined_58 : decode cX2_joined 58 = .ok (.iload_n 2, 1) := by decide +kernel
theorem dX2_joined_59 : decode cX2_joined 59 = .ok (.ifCond .eq 7, 3) := by decide +kernel
theorem dX2_joined_62 : decode cX2_joined 62 = .ok (.iconst 1, 1) := by decide +kernel
theorem dX2_joined_63 : decode cX2_joined 63 = .ok (.goto 4, 3) := by decide +kernel
theorem dX2_joined_66 : decode cX2_joined 66 = .ok (.iconst 0, 1) := by decide +kernel
theorem dX2_joined_67 : decode cX2_joined 67 = .ok (.ireturn, 1) := by decide +kernel
theorem dX2_joined_68 : decode cX2_joined 68 = .ok (.iload_n 1, 1) := by decide +kernel
theorem dX2_joined_69 : decode cX2_joined 69 = .ok (.iload_n 2, 1) := by decide +kernel
theorem dX2_joined_70 : decode cX2_joined 70 = .ok (.if_icmp .ge 7, 3) := by decide +kernel
theorem dX2_joined_73 : decode cX2_joined 73 = .ok (.iconst 1, 1) := by decide +kernel
theorem dX2_joined_74 : decode cX2_joined 74 = .ok (.goto 4, 3) := by decide +kernel
theorem dX2_joined_77 : decode cX2_joined 77 = .ok (.iconst 0, 1) := by decide +kernel
theorem dX2_joined_78 : decode cX2_joined 78 = .ok (.ireturn, 1) := by decide +kernel
theorem dX2_joined_79 : decode cX2_joined 79 = .ok (.iload_n 1, 1) := by decide +kernel
theorem dX2_joined_80 : decode cX2_joined 80 = .ok (.iload_n 2, 1) := by decide +kernel
theorem dX2_joined_81 : decode cX2_joined 81 = .ok (.if_icmp .ne 7, 3) := by decide +kernel
theorem dX2_joined_84 : decode cX2_joined 84 = .ok (.iconst 1, 1) := by decide +kernel
theorem dX2_joined_85 : decode cX2_joined 85 = .ok (.goto 4, 3) := by decide +kernel
theorem dX2_joined_88 : decode cX2_joined 88 = .ok (.iconst 0, 1) := by decide +kernel
theorem dX2_joined_89 : decode cX2_joined 89 = .ok (.ireturn, 1) := by decide +kernel
theorem dX2_joined_90 : decode cX2_joined 90 = .ok (.iload_n 1, 1) := by decide +kernel
theorem dX2_joined_91 : decode cX2_joined 91 = .ok (.iload_n 2, 1) := by decide +kernel
theorem dX2_joined_92 : decode cX2_joined 92 = .ok (.iadd, 1) := by decide +kernel
theorem dX2_joined_93 : decode cX2_joined 93 = .ok (.ireturn, 1) := by decide +kernel
theorem dX2_joined_94 : decode cX2_joined 94 = .ok (.iload_n 1, 1) := by decide +kernel
theorem dX2_joined_95 : decode cX2_joined 95 = .ok (.iload_n 2, 1) := by decide +kernel
theorem dX2_joined_96 : decode cX2_joined 96 = .ok (.isub, 1) := by decide +kernel
theorem dX2_joined_97 : decode cX2_joined 97 = .ok (.ireturn, 1) := by decide +kernel
theorem dX2_joined_98 : decode cX2_joined 98 = .ok (.iload_n 1, 1) := by decide +kernel
theorem dX2_joined_99 : decode cX2_joined 99 = .ok (.iload_n 2, 1) := by decide +kernel
theorem dX2_joined_100 : decode cX2_joined 100 = .ok (.imul, 1) := by decide +kernel
theorem dX2_joined_101 : decode cX2_joined 101 = .ok (.ireturn, 1) := by decide +kernel
theorem dX3_init_0 : decode cX3_init 0 = .ok (.aload_n 0, 1) := by decide +kernel
theorem dX3_init_1 : decode cX3_init 1 = .ok (.invokespecial 1, 3) := by decide +kernel
theorem dX3_init_4 : decode cX3_init 4 = .ok (.aload_n 0, 1) := by decide +kernel
theorem dX3_init_5 : decode cX3_init 5 = .ok (.bipush 40, 2) := by decide +kernel
theorem dX3_init_7 : decode cX3_init 7 = .ok (.newarray .int, 2) := by decide +kernel
theorem dX3_init_9 : decode cX3_init 9 = .ok (.putfield 9, 3) := by decide +kernel
theorem dX3_init_12 : decode cX3_init 12 = .ok (.return_, 1) := by decide +kernel
theorem dX3_begin_0 : decode cX3_begin 0 = .ok (.aload_n 0, 1) := by decide +kernel
theorem dX3_begin_1 : decode cX3_begin 1 = .ok (.aload 4, 2) := by decide +kernel
theorem dX3_begin_3 : decode cX3_begin 3 = .ok (.putfield 13, 3) := by decide +kernel
theorem dX3_begin_6 : decode cX3_begin 6 = .ok (.aload_n 0, 1) := by decide +kernel
theorem dX3_begin_7 : decode cX3_begin 7 = .ok (.lconst 0, 1) := by decide +kernel
theorem dX3_begin_8 : decode cX3_begin 8 = .ok (.putfield 17, 3) := by decide +kernel
theorem dX3_begin_11 : decode cX3_begin 11 = .ok (.aload_n 0, 1) := by decide +kernel
theorem dX3_begin_12 : decode cX3_begin 12 = .ok (.iload_n 1, 1) := by decide +kernel
theorem dX3_begin_13 : decode cX3_begin 13 = .ok (.putfield 21, 3) := by decide +kernel
theorem dX3_begin_16 : decode cX3_begin 16 = .ok (.aload_n 0, 1) := by decide +kernel
theorem dX3_begin_17 : decode cX3_begin 17 = .ok (.iload_n 2, 1) := by decide +kernel
theorem dX3_begin_18 : decode cX3_begin 18 = .ok (.putfield 25, 3) := by decide +kernel
theorem dX3_begin_21 : decode cX3_begin 21 = .ok (.aload_n 0, 1) := by decide +kernel
theorem dX3_begin_22 : decode cX3_begin 22 = .ok (.iload_n 3, 1) := by decide +kernel
theorem dX3_begin_23 : decode cX3_begin 23 = .ok (.putfield 28, 3) := by decide +kernel
theorem dX3_begin_26 : decode cX3_begin 26 = .ok (.aload_n 0, 1) := by decide +kernel
theorem dX3_begin_27 : decode cX3_begin 27 = .ok (.bipush 20, 2) := by decide +kernel
theorem dX3_begin_29 : decode cX3_begin 29 = .ok (.putfield 31, 3) := by decide +kernel
theorem dX3_begin_32 : decode cX3_begin 32 = .ok (.aload_n 0, 1) := by decide +kernel
theorem dX3_begin_33 : decode cX3_begin 33 = .ok (.iconst 0, 1) := by decide +kernel
theorem dX3_begin_34 : decode cX3_begin 34 = .ok (.putfield 34, 3) := by decide +kernel
theorem dX3_begin_37 : decode cX3_begin 37 = .ok (.aload_n 0, 1) := by decide +kernel
theorem dX3_begin_38 : decode cX3_begin 38 = .ok (.iconst 0, 1) := by decide +kernel
theorem dX3_begin_39 : decode cX3_begin 39 = .ok (.putfield 37, 3) := by decide +kernel
theorem dX3_begin_42 : decode cX3_begin 42 = .ok (.aload_n 0, 1) := by decide +kernel
theorem dX3_begin_43 : decode cX3_begin 43 = .ok (.iconst 0, 1) := by decide +kernel
theorem dX3_begin_44 : decode cX3_begin 44 = .ok (.putfield 40, 3) := by decide +kernel
theorem dX3_begin_47 : decode cX3_begin 47 = .ok (.aload_n 0, 1) := by decide +kernel
theorem dX3_begin_48 : decode cX3_begin 48 = .ok (.iconst 0, 1) := by decide +kernel
theorem dX3_begin_49 : decode cX3_begin 49 = .ok (.putfield 43, 3) := by decide +kernel
theorem dX3_begin_52 : decode cX3_begin 52 = .ok (.aload_n 0, 1) := by decide +kernel
theorem dX3_begin_53 : decode cX3_begin 53 = .ok (.iconst 0, 1) := by decide +kernel
theorem dX3_begin_54 : decode cX3_begin 54 = .ok (.putfield 46, 3) := by decide +kernel
theorem dX3_begin_57 : decode cX3_begin 57 = .ok (.aload_n 0, 1) := by decide +kernel
theorem dX3_begin_58 : decode cX3_begin 58 = .ok (.iconst 0, 1) := by decide +kernel
theorem dX3_begin_59 : decode cX3_begin 59 = .ok (.putfield 49, 3) := by decide +kernel
theorem dX3_begin_62 : decode cX3_begin 62 = .ok (.aload_n 0, 1) := by decide +kernel
theorem dX3_begin_63 : decode cX3_begin 63 = .ok (.iconst 0, 1) := by decide +kernel
theorem dX3_begin_64 : decode cX3_begin 64 = .ok (.putfield 52, 3) := by decide +kernel
theorem dX3_begin_67 : decode cX3_begin 67 = .ok (.aload_n 0, 1) := by decide +kernel
theorem dX3_begin_68 : decode cX3_begin 68 = .ok (.iconst 0, 1) := by decide +kernel
theorem dX3_begin_69 : decode cX3_begin 69 = .ok (.putfield 55, 3) := by decide +kernel
theorem dX3_begin_72 : decode cX3_begin 72 = .ok (.aload_n 0, 1) := by decide +kernel
theorem dX3_begin_73 : decode cX3_begin 73 = .ok (.iconst 0, 1) := by decide +kernel
theorem dX3_begin_74 : decode cX3_begin 74 = .ok (.putfield 58, 3) := by decide +kernel
theorem dX3_begin_77 : decode cX3_begin 77 = .ok (.aload_n 0, 1) := by decide +kernel
theorem dX3_begin_78 : decode cX3_begin 78 = .ok (.iconst 0, 1) := by decide +kernel
theorem dX3_begin_79 : decode cX3_begin 79 = .ok (.putfield 61, 3) := by decide +kernel
theorem dX3_begin_82 : decode cX3_begin 82 = .ok (.return_, 1) := by decide +kernel
theorem dX3_becomeLike_0 : decode cX3_becomeLike 0 = .ok (.aload_n 0, 1) := by decide +kernel
theorem dX3_becomeLike_1 : decode cX3_becomeLike 1 = .ok (.aload_n 1, 1) := by decide +kernel
theorem dX3_becomeLike_2 : decode cX3_becomeLike 2 = .ok (.getfield 13, 3) := by decide +kernel
theorem dX3_becomeLike_5 : decode cX3_becomeLike 5 = .ok (.putfield 13, 3) := by decide +kernel
theorem dX3_becomeLike_8 : decode cX3_becomeLike 8 = .ok (.aload_n 0, 1) := by decide +kernel
theorem dX3_becomeLike_9 : decode cX3_becomeLike 9 = .ok (.aload_n 1, 1) := by decide +kernel
theorem dX3_becomeLike_10 : decode cX3_becomeLike 10 = .ok (.getfield 17, 3) := by decide +kernel
theorem dX3_becomeLike_13 : decode cX3_becomeLike 13 = .ok (.putfield 17, 3) := by decide +kernel
theorem dX3_becomeLike_16 : decode cX3_becomeLike 16 = .ok (.aload_n 0, 1) := by decide +kernel
theorem dX3_becomeLike_17 : decode cX3_becomeLike 17 = .ok (.aload_n 1, 1) := by decide +kernel
theorem dX3_becomeLike_18 : decode cX3_becomeLike 18 = .ok (.getfield 21, 3) := by decide +kernel
theorem dX3_becomeLike_21 : decode cX3_becomeLike 21 = .ok (.putfield 21, 3) := by decide +kernel
theorem dX3_becomeLike_24 : decode cX3_becomeLike 24 = .ok (.aload_n 0, 1) := by decide +kernel
theorem dX3_becomeLike_25 : decode cX3_becomeLike 25 = .ok (.aload_n 1, 1) := by decide +kernel
theorem dX3_becomeLike_26 : decode cX3_becomeLike 26 = .ok (.getfield 25, 3) := by decide +kernel
theorem dX3_becomeLike_29 : decode cX3_becomeLike 29 = .ok (.putfield 25, 3) := by decide +kernel
theorem dX3_becomeLike_32 : decode cX3_becomeLike 32 = .ok (.aload_n 0, 1) := by decide +kernel
theorem dX3_becomeLike_33 : decode cX3_becomeLike 33 = .ok (.aload_n 1, 1) := by decide +kernel
theorem dX3_becomeLike_34 : decode cX3_becomeLike 34 = .ok (.getfield 28, 3) := by decide +kernel
theorem dX3_becomeLike_37 : decode cX3_becomeLike 37 = .ok (.putfield 28, 3) := by decide +kernel
theorem dX3_becomeLike_40 : decode cX3_becomeLike 40 = .ok (.aload_n 0, 1) := by decide +kernel
theorem dX3_becomeLike_41 : decode cX3_becomeLike 41 = .ok (.aload_n 1, 1) := by decide +kernel
theorem dX3_becomeLike_42 : decode cX3_becomeLike 42 = .ok (.getfield 31, 3) := by decide +kernel
theorem dX3_becomeLike_45 : decode cX3_becomeLike 45 = .ok (.putfield 31, 3) := by decide +kernel
theorem dX3_becomeLike_48 : decode cX3_becomeLike 48 = .ok (.aload_n 0, 1) := by decide +kernel
theorem dX3_becomeLike_49 : decode cX3_becomeLike 49 = .ok (.aload_n 1, 1) := by decide +kernel
theorem dX3_becomeLike_50 : decode cX3_becomeLike 50 = .ok (.getfield 34, 3) := by decide +kernel
theorem dX3_becomeLike_53 : decode cX3_becomeLike 53 = .ok (.putfield 34, 3) := by decide +kernel
theorem dX3_becomeLike_56 : decode cX3_becomeLike 56 = .ok (.aload_n 0, 1) := by decide +kernel
theorem dX3_becomeLike_57 : decode cX3_becomeLike 57 = .ok (.aload_n 1, 1) := by decide +kernel
theorem dX3_becomeLike_58 : decode cX3_becomeLike 58 = .ok (.getfield 37, 3) := by decide +kernel
theorem dX3_becomeLike_61 : decode cX3_becomeLike 61 = .ok (.putfield 37, 3) := by decide +kernel
theorem dX3_becomeLike_64 : decode cX3_becomeLike 64 = .ok (.aload_n 0, 1) := by decide +kernel
theorem dX3_becomeLike_65 : decode cX3_becomeLike 65 = .ok (.aload_n 1, 1) := by decide +kernel
theorem dX3_becomeLike_66 : decode cX3_becomeLike 66 = .ok (.getfield 40, 3) := by decide +kernel
theorem dX3_becomeLike_69 : decode cX3_becomeLike 69 = .ok (.putfield 40, 3) := by decide +kernel
theorem dX3_becomeLike_72 : decode cX3_becomeLike 72 = .ok (.aload_n 0, 1) := by decide +kernel
theorem dX3_becomeLike_73 : decode cX3_becomeLike 73 = .ok (.aload_n 1, 1) := by decide +kernel
theorem dX3_becomeLike_74 : decode cX3_becomeLike 74 = .ok (.getfield 43, 3) := by decide +kernel
theorem dX3_becomeLike_77 : decode cX3_becomeLike 77 = .ok (.putfield 43, 3) := by decide +kernel
theorem dX3_becomeLike_80 : decode cX3_becomeLike 80 = .ok (.aload_n 0, 1) := by decide +kernel
theorem dX3_becomeLike_81 : decode cX3_becomeLike 81 = .ok (.aload_n 1, 1) := by decide +kernel
theorem dX3_becomeLike_82 : decode cX3_becomeLike 82 = .ok (.getfield 46, 3) := by decide +kernel
theorem dX3_becomeLike_85 : decode cX3_becomeLike 85 = .ok (.putfield 46, 3) := by decide +kernel
theorem dX3_becomeLike_88 : decode cX3_becomeLike 88 = .ok (.aload_n 0, 1) := by decide +kernel
theorem dX3_becomeLike_89 : decode cX3_becomeLike 89 = .ok (.aload_n 1, 1) := by decide +kernel
theorem dX3_becomeLike_90 : decode cX3_becomeLike 90 = .ok (.getfield 49, 3) := by decide +kernel
theorem dX3_becomeLike_93 : decode cX3_becomeLike 93 = .ok (.putfield 49, 3) := by decide +kernel
theorem dX3_becomeLike_96 : decode cX3_becomeLike 96 = .ok (.aload_n 0, 1) := by decide +kernel
theorem dX3_becomeLike_97 : decode cX3_becomeLike 97 = .ok (.aload_n 1, 1) := by decide +kernel
theorem dX3_becomeLike_98 : decode cX3_becomeLike 98 = .ok (.getfield 52, 3) := by decide +kernel
theorem dX3_becomeLike_101 : decode cX3_becomeLike 101 = .ok (.putfield 52, 3) := by decide +kernel
theorem dX3_becomeLike_104 : decode cX3_becomeLike 104 = .ok (.aload_n 0, 1) := by decide +kernel
theorem dX3_becomeLike_105 : decode cX3_becomeLike 105 = .ok (.aload_n 1, 1) := by decide +kernel
theorem dX3_becomeLike_106 : decode cX3_becomeLike 106 = .ok (.getfield 55, 3) := by decide +kernel
theorem dX3_becomeLike_109 : decode cX3_becomeLike 109 = .ok (.putfield 55, 3) := by decide +kernel
theorem dX3_becomeLike_112 : decode cX3_becomeLike 112 = .ok (.aload_n 0, 1) := by decide +kernel
theorem dX3_becomeLike_113 : decode cX3_becomeLike 113 = .ok (.aload_n 1, 1) := by decide +kernel
theorem dX3_becomeLike_114 : decode cX3_becomeLike 114 = .ok (.getfield 58, 3) := by decide +kernel
theorem dX3_becomeLike_117 : decode cX3_becomeLike 117 = .ok (.putfield 58, 3) := by decide +kernel
theorem dX3_becomeLike_120 : decode cX3_becomeLike 120 = .ok (.aload_n 0, 1) := by decide +kernel
theorem dX3_becomeLike_121 : decode cX3_becomeLike 121 = .ok (.aload_n 1, 1) := by decide +kernel
theorem dX3_becomeLike_122 : decode cX3_becomeLike 122 = .ok (.getfield 61, 3) := by decide +kernel
theorem dX3_becomeLike_125 : decode cX3_becomeLike 125 = .ok (.putfield 61, 3) := by decide +kernel
theorem dX3_becomeLike_128 : decode cX3_becomeLike 128 = .ok (.return_, 1) := by decide +kernel
theorem dX3_flickerBy_0 : decode cX3_flickerBy 0 = .ok (.aload_n 0, 1) := by decide +kernel
theorem dX3_flickerBy_1 : decode cX3_flickerBy 1 = .ok (.iload_n 1, 1) := by decide +kernel
theorem dX3_flickerBy_2 : decode cX3_flickerBy 2 = .ok (.iconst 1, 1) := by decide +kernel
theorem dX3_flickerBy_3 : decode cX3_flickerBy 3 = .ok (.iadd, 1) := by decide +kernel
theorem dX3_flickerBy_4 : decode cX3_flickerBy 4 = .ok (.i2l, 1) := by decide +kernel
theorem dX3_flickerBy_5 : decode cX3_flickerBy 5 = .ok (.putfield 17, 3) := by decide +kernel
theorem dX3_flickerBy_8 : decode cX3_flickerBy 8 = .ok (.return_, 1) := by decide +kernel
theorem dX3_undergo_0 : decode cX3_undergo 0 = .ok (.aload_n 1, 1) := by decide +kernel
theorem dX3_undergo_1 : decode cX3_undergo 1 = .ok (.getfield 64, 3) := by decide +kernel
theorem dX3_undergo_4 : decode cX3_undergo 4 = .ok (.tableswitch 130 1 5 #[36, 51, 67, 78, 111], 36) := by decide +kernel
theorem dX3_undergo_40 : decode cX3_undergo 40 = .ok (.aload_n 0, 1) := by decide +kernel
theorem dX3_undergo_41 : decode cX3_undergo 41 = .ok (.aload_n 1, 1) := by decide +kernel
theorem dX3_undergo_42 : decode cX3_undergo 42 = .ok (.getfield 69, 3) := by decide +kernel
theorem dX3_undergo_45 : decode cX3_undergo 45 = .ok (.aload_n 1, 1) := by decide +kernel
theorem dX3_undergo_46 : decode cX3_undergo 46 = .ok (.getfield 72, 3) := by decide +kernel
theorem dX3_undergo_49 : decode cX3_undergo 49 = .ok (.invokevirtual 75, 3) := by decide +kernel
theorem dX3_undergo_52 : decode cX3_undergo 52 = .ok (.goto 82, 3) := by decide +kernel
theorem dX3_undergo_55 : decode cX3_undergo 55 = .ok (.aload_n 2, 1) := by decide +kernel
theorem dX3_undergo_56 : decode cX3_undergo 56 = .ok (.ifnull 78, 3) := by decide +kernel
theorem dX3_undergo_59 : decode cX3_undergo 59 = .ok (.aload_n 0, 1) := by decide +kernel
theorem dX3_undergo_60 : decode cX3_undergo 60 = .ok (.aload_n 2, 1) := by decide +kernel
theorem dX3_undergo_61 : decode cX3_undergo 61 = .ok (.aload_n 1, 1) := by decide +kernel
theorem dX3_undergo_62 : decode cX3_undergo 62 = .ok (.getfield 69, 3) := by decide +kernel
theorem dX3_undergo_65 : decode cX3_undergo 65 = .ok (.invokevirtual 79, 3) := by decide +kernel
theorem dX3_undergo_68 : decode cX3_undergo 68 = .ok (.goto 66, 3) := by decide +kernel
theorem dX3_undergo_71 : decode cX3_undergo 71 = .ok (.aload_n 0, 1) := by decide +kernel
theorem dX3_undergo_72 : decode cX3_undergo 72 = .ok (.aload_n 1, 1) := by decide +kernel
theorem dX3_undergo_73 : decode cX3_undergo 73 = .ok (.getfield 69, 3) := by decide +kernel
theorem dX3_undergo_76 : decode cX3_undergo 76 = .ok (.invokevirtual 83, 3) := by decide +kernel
theorem dX3_undergo_79 : decode cX3_undergo 79 = .ok (.goto 55, 3) := by decide +kernel
theorem dX3_undergo_82 : decode cX3_undergo 82 = .ok (.aload_n 0, 1) := by decide +kernel
theorem dX3_undergo_83 : decode cX3_undergo 83 = .ok (.aload_n 1, 1) := by decide +kernel
theorem dX3_undergo_84 : decode cX3_undergo 84 = .ok (.getfield 69, 3) := by decide +kernel
theorem dX3_undergo_87 : decode cX3_undergo 87 = .ok (.aload_n 1, 1) := by decide +kernel
theorem dX3_undergo_88 : decode cX3_undergo 88 = .ok (.getfield 72, 3) := by decide +kernel
theorem dX3_undergo_91 : decode cX3_undergo 91 = .ok (.invokevirtual 75, 3) := by decide +kernel
theorem dX3_undergo_94 : decode cX3_undergo 94 = .ok (.aload_n 0, 1) := by decide +kernel
theorem dX3_undergo_95 : decode cX3_undergo 95 = .ok (.bipush 99, 2) := by decide +kernel
theorem dX3_undergo_97 : decode cX3_undergo 97 = .ok (.aload_n 0, 1) := by decide +kernel
theorem dX3_undergo_98 : decode cX3_undergo 98 = .ok (.getfield 49, 3) := by decide +kernel
theorem dX3_undergo_101 : decode cX3_undergo 101 = .ok (.aload_n 1, 1) := by decide +kernel
theorem dX3_undergo_102 : decode cX3_undergo 102 = .ok (.getfield 69, 3) := by decide +kernel
theorem dX3_undergo_105 : decode cX3_undergo 105 = .ok (.iadd, 1) := by decide +kernel
theorem dX3_undergo_106 : decode cX3_undergo 106 = .ok (.invokestatic 87, 3) := by decide +kernel
theorem dX3_undergo_109 : decode cX3_undergo 109 = .ok (.putfield 49, 3) := by decide +kernel
theorem dX3_undergo_112 : decode cX3_undergo 112 = .ok (.goto 22, 3) := by decide +kernel
theorem dX3_undergo_115 : decode cX3_undergo 115 = .ok (.aload_n 0, 1) := by decide +kernel
theorem dX3_undergo_116 : decode cX3_undergo 116 = .ok (.aload_n 1, 1) := by decide +kernel
theorem dX3_undergo_117 : decode cX3_undergo 117 = .ok (.getfield 69, 3) := by decide +kernel
theorem dX3_undergo_120 : decode cX3_undergo 120 = .ok (.invokevirtual 83, 3) := by decide +kernel
theorem dX3_undergo_123 : decode cX3_undergo 123 = .ok (.aload_n 0, 1) := by decide +kernel
theorem dX3_undergo_124 : decode cX3_undergo 124 = .ok (.aload_n 1, 1) := by decide +kernel
theorem dX3_undergo_125 : decode cX3_undergo 125 = .ok (.getfield 72, 3) := by decide +kernel
theorem dX3_undergo_128 : decode cX3_undergo 128 = .ok (.putfield 21, 3) := by decide +kernel
theorem dX3_undergo_131 : decode cX3_undergo 131 = .ok (.goto 3, 3) := by decide +kernel
theorem dX3_undergo_134 : decode cX3_undergo 134 = .ok (.aload_n 1, 1) := by decide +kernel
theorem dX3_undergo_135 : decode cX3_undergo 135 = .ok (.invokevirtual 93, 3) := by decide +kernel
theorem dX3_undergo_138 : decode cX3_undergo 138 = .ok (.istore_n 3, 1) := by decide +kernel
theorem dX3_undergo_139 : decode cX3_undergo 139 = .ok (.iconst 0, 1) := by decide +kernel
theorem dX3_undergo_140 : decode cX3_undergo 140 = .ok (.istore 4, 2) := by decide +kernel
theorem dX3_undergo_142 : decode cX3_undergo 142 = .ok (.iload 4, 2) := by decide +kernel
theorem dX3_undergo_144 : decode cX3_undergo 144 = .ok (.iload_n 3, 1) := by decide +kernel
theorem dX3_undergo_145 : decode cX3_undergo 145 = .ok (.if_icmp .ge 17, 3) := by decide +kernel
theorem dX3_undergo_148 : decode cX3_undergo 148 = .ok (.aload_n 0, 1) := by decide +kernel
theorem dX3_undergo_149 : decode cX3_undergo 149 = .ok (.aload_n 1, 1) := by decide +kernel
theorem dX3_undergo_150 : decode cX3_undergo 150 = .ok (.invokevirtual 97, 3) := by decide +kernel
theorem dX3_undergo_153 : decode cX3_undergo 153 = .ok (.invokevirtual 101, 3) := by decide +kernel
theorem dX3_undergo_156 : decode cX3_undergo 156 = .ok (.iinc 4 1, 3) := by decide +kernel
theorem dX3_undergo_159 : decode cX3_undergo 159 = .ok (.goto (-17), 3) := by decide +kernel
theorem dX3_undergo_162 : decode cX3_undergo 162 = .ok (.return_, 1) := by decide +kernel
theorem dX3_pourIn_0 : decode cX3_pourIn 0 = .ok (.aload_n 0, 1) := by decide +kernel
theorem dX3_pourIn_1 : decode cX3_pourIn 1 = .ok (.sipush 9999, 3) := by decide +kernel
theorem dX3_pourIn_4 : decode cX3_pourIn 4 = .ok (.aload_n 0, 1) := by decide +kernel
theorem dX3_pourIn_5 : decode cX3_pourIn 5 = .ok (.getfield 25, 3) := by decide +kernel
theorem dX3_pourIn_8 : decode cX3_pourIn 8 = .ok (.iload_n 1, 1) := by decide +kernel
theorem dX3_pourIn_9 : decode cX3_pourIn 9 = .ok (.iadd, 1) := by decide +kernel
theorem dX3_pourIn_10 : decode cX3_pourIn 10 = .ok (.invokestatic 87, 3) := by decide +kernel
theorem dX3_pourIn_13 : decode cX3_pourIn 13 = .ok (.putfield 25, 3) := by decide +kernel
theorem dX3_pourIn_16 : decode cX3_pourIn 16 = .ok (.aload_n 0, 1) := by decide +kernel
theorem dX3_pourIn_17 : decode cX3_pourIn 17 = .ok (.bipush 99, 2) := by decide +kernel
theorem dX3_pourIn_19 : decode cX3_pourIn 19 = .ok (.aload_n 0, 1) := by decide +kernel
theorem dX3_pourIn_20 : decode cX3_pourIn 20 = .ok (.getfield 28, 3) := by decide +kernel
theorem dX3_pourIn_23 : decode cX3_pourIn 23 = .ok (.iload_n 1, 1) := by decide +kernel
theorem dX3_pourIn_24 : decode cX3_pourIn 24 = .ok (.iload_n 2, 1) := by decide +kernel
theorem dX3_pourIn_25 : decode cX3_pourIn 25 = .ok (.imul, 1) := by decide +kernel
theorem dX3_pourIn_26 : decode cX3_pourIn 26 = .ok (.iconst 4, 1) := by decide +kernel
theorem dX3_pourIn_27 : decode cX3_pourIn 27 = .ok (.idiv, 1) := by decide +kernel
theorem dX3_pourIn_28 : decode cX3_pourIn 28 = .ok (.iadd, 1) := by decide +kernel
theorem dX3_pourIn_29 : decode cX3_pourIn 29 = .ok (.invokestatic 87, 3) := by decide +kernel
theorem dX3_pourIn_32 : decode cX3_pourIn 32 = .ok (.putfield 28, 3) := by decide +kernel
theorem dX3_pourIn_35 : decode cX3_pourIn 35 = .ok (.aload_n 0, 1) := by decide +kernel
theorem dX3_pourIn_36 : decode cX3_pourIn 36 = .ok (.iconst 0, 1) := by decide +kernel
theorem dX3_pourIn_37 : decode cX3_pourIn 37 = .ok (.aload_n 0, 1) := by decide +kernel
theorem dX3_pourIn_38 : decode cX3_pourIn 38 = .ok (.getfield 31, 3) := by decide +kernel
theorem dX3_pourIn_41 : decode cX3_pourIn 41 = .ok (.iload_n 1, 1) := by decide +kernel
theorem dX3_pourIn_42 : decode cX3_pourIn 42 = .ok (.iconst 2, 1) := by decide +kernel
theorem dX3_pourIn_43 : decode cX3_pourIn 43 = .ok (.idiv, 1) := by decide +kernel
theorem dX3_pourIn_44 : decode cX3_pourIn 44 = .ok (.isub, 1) := by decide +kernel
theorem dX3_pourIn_45 : decode cX3_pourIn 45 = .ok (.invokestatic 105, 3) := by decide +kernel
theorem dX3_pourIn_48 : decode cX3_pourIn 48 = .ok (.putfield 31, 3) := by decide +kernel
theorem dX3_pourIn_51 : decode cX3_pourIn 51 = .ok (.return_, 1) := by decide +kernel
theorem dX3_throwIn_0 : decode cX3_throwIn 0 = .ok (.aload_n 0, 1) := by decide +kernel
theorem dX3_throwIn_1 : decode cX3_throwIn 1 = .ok (.dup, 1) := by decide +kernel
theorem dX3_throwIn_2 : decode cX3_throwIn 2 = .ok (.getfield 58, 3) := by decide +kernel
theorem dX3_throwIn_5 : decode cX3_throwIn 5 = .ok (.iload_n 2, 1) := by decide +kernel
theorem dX3_throwIn_6 : decode cX3_throwIn 6 = .ok (.iadd, 1) := by decide +kernel
theorem dX3_throwIn_7 : decode cX3_throwIn 7 = .ok (.putfield 58, 3) := by decide +kernel
theorem dX3_throwIn_10 : decode cX3_throwIn 10 = .ok (.aload_n 0, 1) := by decide +kernel
theorem dX3_throwIn_11 : decode cX3_throwIn 11 = .ok (.dup, 1) := by decide +kernel
theorem dX3_throwIn_12 : decode cX3_throwIn 12 = .ok (.getfield 61, 3) := by decide +kernel
theorem dX3_throwIn_15 : decode cX3_throwIn 15 = .ok (.iload_n 2, 1) := by decide +kernel
theorem dX3_throwIn_16 : decode cX3_throwIn 16 = .ok (.aload_n 1, 1) := by decide +kernel
theorem dX3_throwIn_17 : decode cX3_throwIn 17 = .ok (.iconst 0, 1) := by decide +kernel
theorem dX3_throwIn_18 : decode cX3_throwIn 18 = .ok (.invokevirtual 110, 3) := by decide +kernel
theorem dX3_throwIn_21 : decode cX3_throwIn 21 = .ok (.imul, 1) := by decide +kernel
theorem dX3_throwIn_22 : decode cX3_throwIn 22 = .ok (.iadd, 1) := by decide +kernel
theorem dX3_throwIn_23 : decode cX3_throwIn 23 = .ok (.putfield 61, 3) := by decide +kernel
theorem dX3_throwIn_26 : decode cX3_throwIn 26 = .ok (.aload_n 0, 1) := by decide +kernel
theorem dX3_throwIn_27 : decode cX3_throwIn 27 = .ok (.dup, 1) := by decide +kernel
theorem dX3_throwIn_28 : decode cX3_throwIn 28 = .ok (.getfield 34, 3) := by decide +kernel
theorem dX3_throwIn_31 : decode cX3_throwIn 31 = .ok (.iload_n 2, 1) := by decide +kernel
theorem dX3_throwIn_32 : decode cX3_throwIn 32 = .ok (.aload_n 1, 1) := by decide +kernel
theorem dX3_throwIn_33 : decode cX3_throwIn 33 = .ok (.iconst 3, 1) := by decide +kernel
theorem dX3_throwIn_34 : decode cX3_throwIn 34 = .ok (.invokevirtual 110, 3) := by decide +kernel
theorem dX3_throwIn_37 : decode cX3_throwIn 37 = .ok (.imul, 1) := by decide +kernel
theorem dX3_throwIn_38 : decode cX3_throwIn 38 = .ok (.iadd, 1) := by decide +kernel
theorem dX3_throwIn_39 : decode cX3_throwIn 39 = .ok (.putfield 34, 3) := by decide +kernel
theorem dX3_throwIn_42 : decode cX3_throwIn 42 = .ok (.aload_n 0, 1) := by decide +kernel
theorem dX3_throwIn_43 : decode cX3_throwIn 43 = .ok (.dup, 1) := by decide +kernel
theorem dX3_throwIn_44 : decode cX3_throwIn 44 = .ok (.getfield 40, 3) := by decide +kernel
theorem dX3_throwIn_47 : decode cX3_throwIn 47 = .ok (.iload_n 2, 1) := by decide +kernel
theorem dX3_throwIn_48 : decode cX3_throwIn 48 = .ok (.aload_n 1, 1) := by decide +kernel
theorem dX3_throwIn_49 : decode cX3_throwIn 49 = .ok (.iconst 1, 1) := by decide +kernel
theorem dX3_throwIn_50 : decode cX3_throwIn 50 = .ok (.invokevirtual 110, 3) := by decide +kernel
theorem dX3_throwIn_53 : decode cX3_throwIn 53 = .ok (.imul, 1) := by decide +kernel
theorem dX3_throwIn_54 : decode cX3_throwIn 54 = .ok (.iadd, 1) := by decide +kernel
theorem dX3_throwIn_55 : decode cX3_throwIn 55 = .ok (.putfield 40, 3) := by decide +kernel
theorem dX3_throwIn_58 : decode cX3_throwIn 58 = .ok (.aload_n 0, 1) := by decide +kernel
theorem dX3_throwIn_59 : decode cX3_throwIn 59 = .ok (.dup, 1) := by decide +kernel
theorem dX3_throwIn_60 : decode cX3_throwIn 60 = .ok (.getfield 25, 3) := by decide +kernel
theorem dX3_throwIn_63 : decode cX3_throwIn 63 = .ok (.iload_n 2, 1) := by decide +kernel
theorem dX3_throwIn_64 : decode cX3_throwIn 64 = .ok (.aload_n 1, 1) := by decide +kernel
theorem dX3_throwIn_65 : decode cX3_throwIn 65 = .ok (.iconst 2, 1) := by decide +kernel
theorem dX3_throwIn_66 : decode cX3_throwIn 66 = .ok (.invokevirtual 110, 3) := by decide +kernel
theorem dX3_throwIn_69 : decode cX3_throwIn 69 = .ok (.imul, 1) := by decide +kernel
theorem dX3_throwIn_70 : decode cX3_throwIn 70 = .ok (.iadd, 1) := by decide +kernel
theorem dX3_throwIn_71 : decode cX3_throwIn 71 = .ok (.putfield 25, 3) := by decide +kernel
theorem dX3_throwIn_74 : decode cX3_throwIn 74 = .ok (.aload_n 0, 1) := by decide +kernel
theorem dX3_throwIn_75 : decode cX3_throwIn 75 = .ok (.iconst 0, 1) := by decide +kernel
theorem dX3_throwIn_76 : decode cX3_throwIn 76 = .ok (.aload_n 0, 1) := by decide +kernel
theorem dX3_throwIn_77 : decode cX3_throwIn 77 = .ok (.getfield 31, 3) := by decide +kernel
theorem dX3_throwIn_80 : decode cX3_throwIn 80 = .ok (.iload_n 2, 1) := by decide +kernel
theorem dX3_throwIn_81 : decode cX3_throwIn 81 = .ok (.isub, 1) := by decide +kernel
theorem dX3_throwIn_82 : decode cX3_throwIn 82 = .ok (.invokestatic 105, 3) := by decide +kernel
theorem dX3_throwIn_85 : decode cX3_throwIn 85 = .ok (.putfield 31, 3) := by decide +kernel
theorem dX3_throwIn_88 : decode cX3_throwIn 88 = .ok (.return_, 1) := by decide +kernel
theorem dX3_beat_0 : decode cX3_beat 0 = .ok (.aload_n 0, 1) := by decide +kernel
theorem dX3_beat_1 : decode cX3_beat 1 = .ok (.getfield 46, 3) := by decide +kernel
theorem dX3_beat_4 : decode cX3_beat 4 = .ok (.iload_n 1, 1) := by decide +kernel
theorem dX3_beat_5 : decode cX3_beat 5 = .ok (.iconst 1, 1) := by decide +kernel
theorem dX3_beat_6 : decode cX3_beat 6 = .ok (.aload_n 0, 1) := by decide +kernel
theorem dX3_beat_7 : decode cX3_beat 7 = .ok (.getfield 49, 3) := by decide +kernel
theorem dX3_beat_10 : decode cX3_beat 10 = .ok (.iadd, 1) := by decide +kernel
theorem dX3_beat_11 : decode cX3_beat 11 = .ok (.aload_n 0, 1) := by decide +kernel
theorem dX3_beat_12 : decode cX3_beat 12 = .ok (.getfield 37, 3) := by decide +kernel
theorem dX3_beat_15 : decode cX3_beat 15 = .ok (.bipush 20, 2) := by decide +kernel
theorem dX3_beat_17 : decode cX3_beat 17 = .ok (.idiv, 1) := by decide +kernel
theorem dX3_beat_18 : decode cX3_beat 18 = .ok (.iadd, 1) := by decide +kernel
theorem dX3_beat_19 : decode cX3_beat 19 = .ok (.imul, 1) := by decide +kernel
theorem dX3_beat_20 : decode cX3_beat 20 = .ok (.invokestatic 87, 3) := by decide +kernel
theorem dX3_beat_23 : decode cX3_beat 23 = .ok (.istore_n 2, 1) := by decide +kernel
theorem dX3_beat_24 : decode cX3_beat 24 = .ok (.aload_n 0, 1) := by decide +kernel
theorem dX3_beat_25 : decode cX3_beat 25 = .ok (.dup, 1) := by decide +kernel
theorem dX3_beat_26 : decode cX3_beat 26 = .ok (.getfield 46, 3) := by decide +kernel
theorem dX3_beat_29 : decode cX3_beat 29 = .ok (.iload_n 2, 1) := by decide +kernel
theorem dX3_beat_30 : decode cX3_beat 30 = .ok (.isub, 1) := by decide +kernel
theorem dX3_beat_31 : decode cX3_beat 31 = .ok (.putfield 46, 3) := by decide +kernel
theorem dX3_beat_34 : decode cX3_beat 34 = .ok (.aload_n 0, 1) := by decide +kernel
theorem dX3_beat_35 : decode cX3_beat 35 = .ok (.dup, 1) := by decide +kernel
theorem dX3_beat_36 : decode cX3_beat 36 = .ok (.getfield 43, 3) := by decide +kernel
theorem dX3_beat_39 : decode cX3_beat 39 = .ok (.iload_n 2, 1) := by decide +kernel
theorem dX3_beat_40 : decode cX3_beat 40 = .ok (.iadd, 1) := by decide +kernel
theorem dX3_beat_41 : decode cX3_beat 41 = .ok (.putfield 43, 3) := by decide +kernel
theorem dX3_beat_44 : decode cX3_beat 44 = .ok (.aload_n 0, 1) := by decide +kernel
theorem dX3_beat_45 : decode cX3_beat 45 = .ok (.iconst 0, 1) := by decide +kernel
theorem dX3_beat_46 : decode cX3_beat 46 = .ok (.aload_n 0, 1) := by decide +kernel
theorem dX3_beat_47 : decode cX3_beat 47 = .ok (.getfield 52, 3) := by decide +kernel
theorem dX3_beat_50 : decode cX3_beat 50 = .ok (.iload_n 1, 1) := by decide +kernel
theorem dX3_beat_51 : decode cX3_beat 51 = .ok (.isub, 1) := by decide +kernel
theorem dX3_beat_52 : decode cX3_beat 52 = .ok (.invokestatic 105, 3) := by decide +kernel
theorem dX3_beat_55 : decode cX3_beat 55 = .ok (.putfield 52, 3) := by decide +kernel
theorem dX3_beat_58 : decode cX3_beat 58 = .ok (.return_, 1) := by decide +kernel
theorem dX3_passMinute_0 : decode cX3_passMinute 0 = .ok (.aload_n 0, 1) := by decide +kernel
theorem dX3_passMinute_1 : decode cX3_passMinute 1 = .ok (.dup, 1) := by decide +kernel
theorem dX3_passMinute_2 : decode cX3_passMinute 2 = .ok (.getfield 55, 3) := by decide +kernel
theorem dX3_passMinute_5 : decode cX3_passMinute 5 = .ok (.iconst 1, 1) := by decide +kernel
theorem dX3_passMinute_6 : decode cX3_passMinute 6 = .ok (.iadd, 1) := by decide +kernel
theorem dX3_passMinute_7 : decode cX3_passMinute 7 = .ok (.putfield 55, 3) := by decide +kernel
theorem dX3_passMinute_10 : decode cX3_passMinute 10 = .ok (.aload_n 0, 1) := by decide +kernel
theorem dX3_passMinute_11 : decode cX3_passMinute 11 = .ok (.iconst 0, 1) := by decide +kernel
theorem dX3_passMinute_12 : decode cX3_passMinute 12 = .ok (.bipush 120, 2) := by decide +kernel
theorem dX3_passMinute_14 : decode cX3_passMinute 14 = .ok (.aload_n 0, 1) := by decide +kernel
theorem dX3_passMinute_15 : decode cX3_passMinute 15 = .ok (.getfield 31, 3) := by decide +kernel
theorem dX3_passMinute_18 : decode cX3_passMinute 18 = .ok (.bipush 12, 2) := by decide +kernel
theorem dX3_passMinute_20 : decode cX3_passMinute 20 = .ok (.aload_n 0, 1) := by decide +kernel
theorem dX3_passMinute_21 : decode cX3_passMinute 21 = .ok (.getfield 21, 3) := by decide +kernel
theorem dX3_passMinute_24 : decode cX3_passMinute 24 = .ok (.imul, 1) := by decide +kernel
theorem dX3_passMinute_25 : decode cX3_passMinute 25 = .ok (.aload_n 0, 1) := by decide +kernel
theorem dX3_passMinute_26 : decode cX3_passMinute 26 = .ok (.getfield 31, 3) := by decide +kernel
theorem dX3_passMinute_29 : decode cX3_passMinute 29 = .ok (.isub, 1) := by decide +kernel
theorem dX3_passMinute_30 : decode cX3_passMinute 30 = .ok (.iconst 3, 1) := by decide +kernel
theorem dX3_passMinute_31 : decode cX3_passMinute 31 = .ok (.idiv, 1) := by decide +kernel
theorem dX3_passMinute_32 : decode cX3_passMinute 32 = .ok (.iadd, 1) := by decide +kernel
theorem dX3_passMinute_33 : decode cX3_passMinute 33 = .ok (.aload_n 0, 1) := by decide +kernel
theorem dX3_passMinute_34 : decode cX3_passMinute 34 = .ok (.invokevirtual 114, 3) := by decide +kernel
theorem dX3_passMinute_37 : decode cX3_passMinute 37 = .ok (.iadd, 1) := by decide +kernel
theorem dX3_passMinute_38 : decode cX3_passMinute 38 = .ok (.invokestatic 87, 3) := by decide +kernel
theorem dX3_passMinute_41 : decode cX3_passMinute 41 = .ok (.invokestatic 105, 3) := by decide +kernel
theorem dX3_passMinute_44 : decode cX3_passMinute 44 = .ok (.putfield 31, 3) := by decide +kernel
theorem dX3_passMinute_47 : decode cX3_passMinute 47 = .ok (.aload_n 0, 1) := by decide +kernel
theorem dX3_passMinute_48 : decode cX3_passMinute 48 = .ok (.getfield 34, 3) := by decide +kernel
theorem dX3_passMinute_51 : decode cX3_passMinute 51 = .ok (.aload_n 0, 1) := by decide +kernel
theorem dX3_passMinute_52 : decode cX3_passMinute 52 = .ok (.iconst 0, 1) := by decide +kernel
theorem dX3_passMinute_53 : decode cX3_passMinute 53 = .ok (.bipush 100, 2) := by decide +kernel
theorem dX3_passMinute_55 : decode cX3_passMinute 55 = .ok (.invokevirtual 119, 3) := by decide +kernel
theorem dX3_passMinute_58 : decode cX3_passMinute 58 = .ok (.imul, 1) := by decide +kernel
theorem dX3_passMinute_59 : decode cX3_passMinute 59 = .ok (.bipush 100, 2) := by decide +kernel
theorem dX3_passMinute_61 : decode cX3_passMinute 61 = .ok (.idiv, 1) := by decide +kernel
theorem dX3_passMinute_62 : decode cX3_passMinute 62 = .ok (.istore_n 2, 1) := by decide +kernel
theorem dX3_passMinute_63 : decode cX3_passMinute 63 = .ok (.aload_n 0, 1) := by decide +kernel
theorem dX3_passMinute_64 : decode cX3_passMinute 64 = .ok (.dup, 1) := by decide +kernel
theorem dX3_passMinute_65 : decode cX3_passMinute 65 = .ok (.getfield 34, 3) := by decide +kernel
theorem dX3_passMinute_68 : decode cX3_passMinute 68 = .ok (.iload_n 2, 1) := by decide +kernel
theorem dX3_passMinute_69 : decode cX3_passMinute 69 = .ok (.isub, 1) := by decide +kernel
theorem dX3_passMinute_70 : decode cX3_passMinute 70 = .ok (.putfield 34, 3) := by decide +kernel
theorem dX3_passMinute_73 : decode cX3_passMinute 73 = .ok (.aload_n 0, 1) := by decide +kernel
theorem dX3_passMinute_74 : decode cX3_passMinute 74 = .ok (.dup, 1) := by decide +kernel
theorem dX3_passMinute_75 : decode cX3_passMinute 75 = .ok (.getfield 37, 3) := by decide +kernel
theorem dX3_passMinute_78 : decode cX3_passMinute 78 = .ok (.iload_n 2, 1) := by decide +kernel
theorem dX3_passMinute_79 : decode cX3_passMinute 79 = .ok (.iadd, 1) := by decide +kernel
theorem dX3_passMinute_80 : decode cX3_passMinute 80 = .ok (.putfield 37, 3) := by decide +kernel
theorem dX3_passMinute_83 : decode cX3_passMinute 83 = .ok (.aload_n 0, 1) := by decide +kernel
theorem dX3_passMinute_84 : decode cX3_passMinute 84 = .ok (.getfield 40, 3) := by decide +kernel
theorem dX3_passMinute_87 : decode cX3_passMinute 87 = .ok (.aload_n 0, 1) := by decide +kernel
theorem dX3_passMinute_88 : decode cX3_passMinute 88 = .ok (.iconst 1, 1) := by decide +kernel
theorem dX3_passMinute_89 : decode cX3_passMinute 89 = .ok (.bipush 100, 2) := by decide +kernel
theorem dX3_passMinute_91 : decode cX3_passMinute 91 = .ok (.invokevirtual 119, 3) := by decide +kernel
theorem dX3_passMinute_94 : decode cX3_passMinute 94 = .ok (.imul, 1) := by decide +kernel
theorem dX3_passMinute_95 : decode cX3_passMinute 95 = .ok (.bipush 100, 2) := by decide +kernel
theorem dX3_passMinute_97 : decode cX3_passMinute 97 = .ok (.idiv, 1) := by decide +kernel
theorem dX3_passMinute_98 : decode cX3_passMinute 98 = .ok (.istore_n 3, 1) := by decide +kernel
theorem dX3_passMinute_99 : decode cX3_passMinute 99 = .ok (.aload_n 0, 1) := by decide +kernel
theorem dX3_passMinute_100 : decode cX3_passMinute 100 = .ok (.dup, 1) := by decide +kernel
theorem dX3_passMinute_101 : decode cX3_passMinute 101 = .ok (.getfield 40, 3) := by decide +kernel
theorem dX3_passMinute_104 : decode cX3_passMinute 104 = .ok (.iload_n 3, 1) := by decide +kernel
theorem dX3_passMinute_105 : decode cX3_passMinute 105 = .ok (.isub, 1) := by decide +kernel
theorem dX3_passMinute_106 : decode cX3_passMinute 106 = .ok (.putfield 40, 3) := by decide +kernel
theorem dX3_passMinute_109 : decode cX3_passMinute 109 = .ok (.iload_n 1, 1) := by decide +kernel
theorem dX3_passMinute_110 : decode cX3_passMinute 110 = .ok (.ifCond .eq 16, 3) := by decide +kernel
theorem dX3_passMinute_113 : decode cX3_passMinute 113 = .ok (.aload_n 0, 1) := by decide +kernel
theorem dX3_passMinute_114 : decode cX3_passMinute 114 = .ok (.dup, 1) := by decide +kernel
theorem dX3_passMinute_115 : decode cX3_passMinute 115 = .ok (.getfield 43, 3) := by decide +kernel
theorem dX3_passMinute_118 : decode cX3_passMinute 118 = .ok (.iload_n 3, 1) := by decide +kernel
theorem dX3_passMinute_119 : decode cX3_passMinute 119 = .ok (.iadd, 1) := by decide +kernel
theorem dX3_passMinute_120 : decode cX3_passMinute 120 = .ok (.putfield 43, 3) := by decide +kernel
theorem dX3_passMinute_123 : decode cX3_passMinute 123 = .ok (.goto 17, 3) := by decide +kernel
theorem dX3_passMinute_126 : decode cX3_passMinute 126 = .ok (.aload_n 0, 1) := by decide +kernel
theorem dX3_passMinute_127 : decode cX3_passMinute 127 = .ok (.dup, 1) := by decide +kernel
theorem dX3_passMinute_128 : decode cX3_passMinute 128 = .ok (.getfield 46, 3) := by decide +kernel
theorem dX3_passMinute_131 : decode cX3_passMinute 131 = .ok (.iload_n 3, 1) := by decide +kernel
theorem dX3_passMinute_132 : decode cX3_passMinute 132 = .ok (.iadd, 1) := by decide +kernel
theorem dX3_passMinute_133 : decode cX3_passMinute 133 = .ok (.putfield 46, 3) := by decide +kernel
theorem dX3_passMinute_136 : decode cX3_passMinute 136 = .ok (.aload_n 0, 1) := by decide +kernel
theorem dX3_passMinute_137 : decode cX3_passMinute 137 = .ok (.invokevirtual 122, 3) := by decide +kernel
theorem dX3_passMinute_140 : decode cX3_passMinute 140 = .ok (.aload_n 0, 1) := by decide +kernel
theorem dX3_passMinute_141 : decode cX3_passMinute 141 = .ok (.iconst 0, 1) := by decide +kernel
theorem dX3_passMinute_142 : decode cX3_passMinute 142 = .ok (.aload_n 0, 1) := by decide +kernel
theorem dX3_passMinute_143 : decode cX3_passMinute 143 = .ok (.getfield 25, 3) := by decide +kernel
theorem dX3_passMinute_146 : decode cX3_passMinute 146 = .ok (.aload_n 0, 1) := by decide +kernel
theorem dX3_passMinute_147 : decode cX3_passMinute 147 = .ok (.getfield 31, 3) := by decide +kernel
theorem dX3_passMinute_150 : decode cX3_passMinute 150 = .ok (.bipush 40, 2) := by decide +kernel
theorem dX3_passMinute_152 : decode cX3_passMinute 152 = .ok (.idiv, 1) := by decide +kernel
theorem dX3_passMinute_153 : decode cX3_passMinute 153 = .ok (.isub, 1) := by decide +kernel
theorem dX3_passMinute_154 : decode cX3_passMinute 154 = .ok (.invokestatic 105, 3) := by decide +kernel
theorem dX3_passMinute_157 : decode cX3_passMinute 157 = .ok (.putfield 25, 3) := by decide +kernel
theorem dX3_passMinute_160 : decode cX3_passMinute 160 = .ok (.return_, 1) := by decide +kernel
theorem dX3_flicker_0 : decode cX3_flicker 0 = .ok (.aload_n 0, 1) := by decide +kernel
theorem dX3_flicker_1 : decode cX3_flicker 1 = .ok (.getfield 17, 3) := by decide +kernel
theorem dX3_flicker_4 : decode cX3_flicker 4 = .ok (.lconst 0, 1) := by decide +kernel
theorem dX3_flicker_5 : decode cX3_flicker 5 = .ok (.lcmp, 1) := by decide +kernel
theorem dX3_flicker_6 : decode cX3_flicker 6 = .ok (.ifCond .ne 5, 3) := by decide +kernel
theorem dX3_flicker_9 : decode cX3_flicker 9 = .ok (.iconst 0, 1) := by decide +kernel
theorem dX3_flicker_10 : decode cX3_flicker 10 = .ok (.ireturn, 1) := by decide +kernel
theorem dX3_flicker_11 : decode cX3_flicker 11 = .ok (.aload_n 0, 1) := by decide +kernel
theorem dX3_flicker_12 : decode cX3_flicker 12 = .ok (.aload_n 0, 1) := by decide +kernel
theorem dX3_flicker_13 : decode cX3_flicker 13 = .ok (.getfield 17, 3) := by decide +kernel
theorem dX3_flicker_16 : decode cX3_flicker 16 = .ok (.ldc2_w 125, 3) := by decide +kernel
theorem dX3_flicker_19 : decode cX3_flicker 19 = .ok (.lmul, 1) := by decide +kernel
theorem dX3_flicker_20 : decode cX3_flicker 20 = .ok (.ldc2_w 127, 3) := by decide +kernel
theorem dX3_flicker_23 : decode cX3_flicker 23 = .ok (.lrem, 1) := by decide +kernel
theorem dX3_flicker_24 : decode cX3_flicker 24 = .ok (.putfield 17, 3) := by decide +kernel
theorem dX3_flicker_27 : decode cX3_flicker 27 = .ok (.aload_n 0, 1) := by decide +kernel
theorem dX3_flicker_28 : decode cX3_flicker 28 = .ok (.getfield 17, 3) := by decide +kernel
theorem dX3_flicker_31 : decode cX3_flicker 31 = .ok (.ldc2_w 129, 3) := by decide +kernel
theorem dX3_flicker_34 : decode cX3_flicker 34 = .ok (.lrem, 1) := by decide +kernel
theorem dX3_flicker_35 : decode cX3_flicker 35 = .ok (.l2i, 1) := by decide +kernel
theorem dX3_flicker_36 : decode cX3_flicker 36 = .ok (.iconst 4, 1) := by decide +kernel
theorem dX3_flicker_37 : decode cX3_flicker 37 = .ok (.isub, 1) := by decide +kernel
theorem dX3_flicker_38 : decode cX3_flicker 38 = .ok (.ireturn, 1) := by decide +kernel
theorem dX3_settle_0 : decode cX3_settle 0 = .ok (.aload_n 0, 1) := by decide +kernel
theorem dX3_settle_1 : decode cX3_settle 1 = .ok (.getfield 43, 3) := by decide +kernel
theorem dX3_settle_4 : decode cX3_settle 4 = .ok (.iconst 2, 1) := by decide +kernel
theorem dX3_settle_5 : decode cX3_settle 5 = .ok (.idiv, 1) := by decide +kernel
theorem dX3_settle_6 : decode cX3_settle 6 = .ok (.istore_n 1, 1) := by decide +kernel
theorem dX3_settle_7 : decode cX3_settle 7 = .ok (.aload_n 0, 1) := by decide +kernel
theorem dX3_settle_8 : decode cX3_settle 8 = .ok (.dup, 1) := by decide +kernel
theorem dX3_settle_9 : decode cX3_settle 9 = .ok (.getfield 43, 3) := by decide +kernel
theorem dX3_settle_12 : decode cX3_settle 12 = .ok (.iload_n 1, 1) := by decide +kernel
theorem dX3_settle_13 : decode cX3_settle 13 = .ok (.isub, 1) := by decide +kernel
theorem dX3_settle_14 : decode cX3_settle 14 = .ok (.putfield 43, 3) := by decide +kernel
theorem dX3_settle_17 : decode cX3_settle 17 = .ok (.aload_n 0, 1) := by decide +kernel
theorem dX3_settle_18 : decode cX3_settle 18 = .ok (.dup, 1) := by decide +kernel
theorem dX3_settle_19 : decode cX3_settle 19 = .ok (.getfield 46, 3) := by decide +kernel
theorem dX3_settle_22 : decode cX3_settle 22 = .ok (.iload_n 1, 1) := by decide +kernel
theorem dX3_settle_23 : decode cX3_settle 23 = .ok (.iadd, 1) := by decide +kernel
theorem dX3_settle_24 : decode cX3_settle 24 = .ok (.putfield 46, 3) := by decide +kernel
theorem dX3_settle_27 : decode cX3_settle 27 = .ok (.aload_n 0, 1) := by decide +kernel
theorem dX3_settle_28 : decode cX3_settle 28 = .ok (.getfield 31, 3) := by decide +kernel
theorem dX3_settle_31 : decode cX3_settle 31 = .ok (.bipush 60, 2) := by decide +kernel
theorem dX3_settle_33 : decode cX3_settle 33 = .ok (.if_icmp .le 21, 3) := by decide +kernel
theorem dX3_settle_36 : decode cX3_settle 36 = .ok (.aload_n 0, 1) := by decide +kernel
theorem dX3_settle_37 : decode cX3_settle 37 = .ok (.dup, 1) := by decide +kernel
theorem dX3_settle_38 : decode cX3_settle 38 = .ok (.getfield 52, 3) := by decide +kernel
theorem dX3_settle_41 : decode cX3_settle 41 = .ok (.iconst 1, 1) := by decide +kernel
theorem dX3_settle_42 : decode cX3_settle 42 = .ok (.aload_n 0, 1) := by decide +kernel
theorem dX3_settle_43 : decode cX3_settle 43 = .ok (.getfield 34, 3) := by decide +kernel
theorem dX3_settle_46 : decode cX3_settle 46 = .ok (.bipush 50, 2) := by decide +kernel
theorem dX3_settle_48 : decode cX3_settle 48 = .ok (.idiv, 1) := by decide +kernel
theorem dX3_settle_49 : decode cX3_settle 49 = .ok (.iadd, 1) := by decide +kernel
theorem dX3_settle_50 : decode cX3_settle 50 = .ok (.iadd, 1) := by decide +kernel
theorem dX3_settle_51 : decode cX3_settle 51 = .ok (.putfield 52, 3) := by decide +kernel
theorem dX3_settle_54 : decode cX3_settle 54 = .ok (.return_, 1) := by decide +kernel
theorem dX3_worth_0 : decode cX3_worth 0 = .ok (.aload_n 0, 1) := by decide +kernel
theorem dX3_worth_1 : decode cX3_worth 1 = .ok (.getfield 13, 3) := by decide +kernel
theorem dX3_worth_4 : decode cX3_worth 4 = .ok (.ifnonnull 5, 3) := by decide +kernel
theorem dX3_worth_7 : decode cX3_worth 7 = .ok (.iconst 0, 1) := by decide +kernel
theorem dX3_worth_8 : decode cX3_worth 8 = .ok (.ireturn, 1) := by decide +kernel
theorem dX3_worth_9 : decode cX3_worth 9 = .ok (.iconst 0, 1) := by decide +kernel
theorem dX3_worth_10 : decode cX3_worth 10 = .ok (.istore_n 3, 1) := by decide +kernel
theorem dX3_worth_11 : decode cX3_worth 11 = .ok (.aload_n 0, 1) := by decide +kernel
theorem dX3_worth_12 : decode cX3_worth 12 = .ok (.getfield 13, 3) := by decide +kernel
theorem dX3_worth_15 : decode cX3_worth 15 = .ok (.iload_n 1, 1) := by decide +kernel
theorem dX3_worth_16 : decode cX3_worth 16 = .ok (.invokevirtual 131, 3) := by decide +kernel
theorem dX3_worth_19 : decode cX3_worth 19 = .ok (.istore 4, 2) := by decide +kernel
theorem dX3_worth_21 : decode cX3_worth 21 = .ok (.aload_n 0, 1) := by decide +kernel
theorem dX3_worth_22 : decode cX3_worth 22 = .ok (.getfield 13, 3) := by decide +kernel
theorem dX3_worth_25 : decode cX3_worth 25 = .ok (.iload_n 1, 1) := by decide +kernel
theorem dX3_worth_26 : decode cX3_worth 26 = .ok (.invokevirtual 134, 3) := by decide +kernel
theorem dX3_worth_29 : decode cX3_worth 29 = .ok (.istore 5, 2) := by decide +kernel
theorem dX3_worth_31 : decode cX3_worth 31 = .ok (.iload 5, 2) := by decide +kernel
theorem dX3_worth_33 : decode cX3_worth 33 = .ok (.iload 4, 2) := by decide +kernel
theorem dX3_worth_35 : decode cX3_worth 35 = .ok (.if_icmp .ge 182, 3) := by decide +kernel
theorem dX3_worth_38 : decode cX3_worth 38 = .ok (.aload_n 0, 1) := by decide +kernel
theorem dX3_worth_39 : decode cX3_worth 39 = .ok (.getfield 13, 3) := by decide +kernel
theorem dX3_worth_42 : decode cX3_worth 42 = .ok (.iload 5, 2) := by decide +kernel
theorem dX3_worth_44 : decode cX3_worth 44 = .ok (.invokevirtual 137, 3) := by decide +kernel
theorem dX3_worth_47 : decode cX3_worth 47 = .ok (.istore 6, 2) := by decide +kernel
theorem dX3_worth_49 : decode cX3_worth 49 = .ok (.iload 6, 2) := by decide +kernel
theorem dX3_worth_51 : decode cX3_worth 51 = .ok (.bipush (-6), 2) := by decide +kernel
theorem dX3_worth_53 : decode cX3_worth 53 = .ok (.if_icmp .lt 40, 3) := by decide +kernel
theorem dX3_worth_56 : decode cX3_worth 56 = .ok (.iload_n 3, 1) := by decide +kernel
theorem dX3_worth_57 : decode cX3_worth 57 = .ok (.aload_n 0, 1) := by decide +kernel
theorem dX3_worth_58 : decode cX3_worth 58 = .ok (.getfield 9, 3) := by decide +kernel
theorem dX3_worth_61 : decode cX3_worth 61 = .ok (.arraylength, 1) := by decide +kernel
theorem dX3_worth_62 : decode cX3_worth 62 = .ok (.if_icmp .ge 149, 3) := by decide +kernel
theorem dX3_worth_65 : decode cX3_worth 65 = .ok (.aload_n 0, 1) := by decide +kernel
theorem dX3_worth_66 : decode cX3_worth 66 = .ok (.getfield 9, 3) := by decide +kernel
theorem dX3_worth_69 : decode cX3_worth 69 = .ok (.iload_n 3, 1) := by decide +kernel
theorem dX3_worth_70 : decode cX3_worth 70 = .ok (.iload 6, 2) := by decide +kernel
theorem dX3_worth_72 : decode cX3_worth 72 = .ok (.ifCond .lt 8, 3) := by decide +kernel
theorem dX3_worth_75 : decode cX3_worth 75 = .ok (.iload 6, 2) := by decide +kernel
theorem dX3_worth_77 : decode cX3_worth 77 = .ok (.goto 9, 3) := by decide +kernel
theorem dX3_worth_80 : decode cX3_worth 80 = .ok (.aload_n 0, 1) := by decide +kernel
theorem dX3_worth_81 : decode cX3_worth 81 = .ok (.iload 6, 2) := by decide +kernel
theorem dX3_worth_83 : decode cX3_worth 83 = .ok (.invokevirtual 140, 3) := by decide +kernel
theorem dX3_worth_86 : decode cX3_worth 86 = .ok (.iastore, 1) := by decide +kernel
theorem dX3_worth_87 : decode cX3_worth 87 = .ok (.iinc 3 1, 3) := by decide +kernel
theorem dX3_worth_90 : decode cX3_worth 90 = .ok (.goto 121, 3) := by decide +kernel
theorem dX3_worth_93 : decode cX3_worth 93 = .ok (.iload 6, 2) := by decide +kernel
theorem dX3_worth_95 : decode cX3_worth 95 = .ok (.bipush (-11), 2) := by decide +kernel
theorem dX3_worth_97 : decode cX3_worth 97 = .ok (.if_icmp .eq 10, 3) := by decide +kernel
theorem dX3_worth_100 : decode cX3_worth 100 = .ok (.iload 6, 2) := by decide +kernel
theorem dX3_worth_102 : decode cX3_worth 102 = .ok (.bipush (-12), 2) := by decide +kernel
theorem dX3_worth_104 : decode cX3_worth 104 = .ok (.if_icmp .ne 61, 3) := by decide +kernel
theorem dX3_worth_107 : decode cX3_worth 107 = .ok (.iload_n 3, 1) := by decide +kernel
theorem dX3_worth_108 : decode cX3_worth 108 = .ok (.iconst 1, 1) := by decide +kernel
theorem dX3_worth_109 : decode cX3_worth 109 = .ok (.if_icmp .lt 102, 3) := by decide +kernel
theorem dX3_worth_112 : decode cX3_worth 112 = .ok (.iload_n 3, 1) := by decide +kernel
theorem dX3_worth_113 : decode cX3_worth 113 = .ok (.aload_n 0, 1) := by decide +kernel
theorem dX3_worth_114 : decode cX3_worth 114 = .ok (.getfield 9, 3) := by decide +kernel
theorem dX3_worth_117 : decode cX3_worth 117 = .ok (.arraylength, 1) := by decide +kernel
theorem dX3_worth_118 : decode cX3_worth 118 = .ok (.if_icmp .gt 93, 3) := by decide +kernel
theorem dX3_worth_121 : decode cX3_worth 121 = .ok (.aload_n 0, 1) := by decide +kernel
theorem dX3_worth_122 : decode cX3_worth 122 = .ok (.getfield 9, 3) := by decide +kernel
theorem dX3_worth_125 : decode cX3_worth 125 = .ok (.iload_n 3, 1) := by decide +kernel
theorem dX3_worth_126 : decode cX3_worth 126 = .ok (.iconst 1, 1) := by decide +kernel
theorem dX3_worth_127 : decode cX3_worth 127 = .ok (.isub, 1) := by decide +kernel
theorem dX3_worth_128 : decode cX3_worth 128 = .ok (.iaload, 1) := by decide +kernel
theorem dX3_worth_129 : decode cX3_worth 129 = .ok (.istore 7, 2) := by decide +kernel
theorem dX3_worth_131 : decode cX3_worth 131 = .ok (.aload_n 0, 1) := by decide +kernel
theorem dX3_worth_132 : decode cX3_worth 132 = .ok (.getfield 9, 3) := by decide +kernel
theorem dX3_worth_135 : decode cX3_worth 135 = .ok (.iload_n 3, 1) := by decide +kernel
theorem dX3_worth_136 : decode cX3_worth 136 = .ok (.iconst 1, 1) := by decide +kernel
theorem dX3_worth_137 : decode cX3_worth 137 = .ok (.isub, 1) := by decide +kernel
theorem dX3_worth_138 : decode cX3_worth 138 = .ok (.iload 6, 2) := by decide +kernel
theorem dX3_worth_140 : decode cX3_worth 140 = .ok (.bipush (-12), 2) := by decide +kernel
theorem dX3_worth_142 : decode cX3_worth 142 = .ok (.if_icmp .ne 9, 3) := by decide +kernel
theorem dX3_worth_145 : decode cX3_worth 145 = .ok (.iload 7, 2) := by decide +kernel
theorem dX3_worth_147 : decode cX3_worth 147 = .ok (.ineg, 1) := by decide +kernel
theorem dX3_worth_148 : decode cX3_worth 148 = .ok (.goto 13, 3) := by decide +kernel
theorem dX3_worth_151 : decode cX3_worth 151 = .ok (.iload 7, 2) := by decide +kernel
theorem dX3_worth_153 : decode cX3_worth 153 = .ok (.ifCond .ne 7, 3) := by decide +kernel
theorem dX3_worth_156 : decode cX3_worth 156 = .ok (.iconst 1, 1) := by decide +kernel
theorem dX3_worth_157 : decode cX3_worth 157 = .ok (.goto 4, 3) := by decide +kernel
theorem dX3_worth_160 : decode cX3_worth 160 = .ok (.iconst 0, 1) := by decide +kernel
theorem dX3_worth_161 : decode cX3_worth 161 = .ok (.iastore, 1) := by decide +kernel
theorem dX3_worth_162 : decode cX3_worth 162 = .ok (.goto 49, 3) := by decide +kernel
theorem dX3_worth_165 : decode cX3_worth 165 = .ok (.iload_n 3, 1) := by decide +kernel
theorem dX3_worth_166 : decode cX3_worth 166 = .ok (.iconst 2, 1) := by decide +kernel
theorem dX3_worth_167 : decode cX3_worth 167 = .ok (.if_icmp .lt 44, 3) := by decide +kernel
theorem dX3_worth_170 : decode cX3_worth 170 = .ok (.iload_n 3, 1) := by decide +kernel
theorem dX3_worth_171 : decode cX3_worth 171 = .ok (.aload_n 0, 1) := by decide +kernel
theorem dX3_worth_172 : decode cX3_worth 172 = .ok (.getfield 9, 3) := by decide +kernel
theorem dX3_worth_175 : decode cX3_worth 175 = .ok (.arraylength, 1) := by decide +kernel
theorem dX3_worth_176 : decode cX3_worth 176 = .ok (.if_icmp .gt 35, 3) := by decide +kernel
theorem dX3_worth_179 : decode cX3_worth 179 = .ok (.aload_n 0, 1) := by decide +kernel
theorem dX3_worth_180 : decode cX3_worth 180 = .ok (.getfield 9, 3) := by decide +kernel
theorem dX3_worth_183 : decode cX3_worth 183 = .ok (.iload_n 3, 1) := by decide +kernel
theorem dX3_worth_184 : decode cX3_worth 184 = .ok (.iconst 2, 1) := by decide +kernel
theorem dX3_worth_185 : decode cX3_worth 185 = .ok (.isub, 1) := by decide +kernel
theorem dX3_worth_186 : decode cX3_worth 186 = .ok (.iload 6, 2) := by decide +kernel
theorem dX3_worth_188 : decode cX3_worth 188 = .ok (.aload_n 0, 1) := by decide +kernel
theorem dX3_worth_189 : decode cX3_worth 189 = .ok (.getfield 9, 3) := by decide +kernel
theorem dX3_worth_192 : decode cX3_worth 192 = .ok (.iload_n 3, 1) := by decide +kernel
theorem dX3_worth_193 : decode cX3_worth 193 = .ok (.iconst 2, 1) := by decide +kernel
theorem dX3_worth_194 : decode cX3_worth 194 = .ok (.isub, 1) := by decide +kernel
theorem dX3_worth_195 : decode cX3_worth 195 = .ok (.iaload, 1) := by decide +kernel
theorem dX3_worth_196 : decode cX3_worth 196 = .ok (.aload_n 0, 1) := by decide +kernel
theorem dX3_worth_197 : decode cX3_worth 197 = .ok (.getfield 9, 3) := by decide +kernel
theorem dX3_worth_200 : decode cX3_worth 200 = .ok (.iload_n 3, 1) := by decide +kernel
theorem dX3_worth_201 : decode cX3_worth 201 = .ok (.iconst 1, 1) := by decide +kernel
theorem dX3_worth_202 : decode cX3_worth 202 = .ok (.isub, 1) := by decide +kernel
theorem dX3_worth_203 : decode cX3_worth 203 = .ok (.iaload, 1) := by decide +kernel
theorem dX3_worth_204 : decode cX3_worth 204 = .ok (.invokestatic 143, 3) := by decide +kernel
theorem dX3_worth_207 : decode cX3_worth 207 = .ok (.iastore, 1) := by decide +kernel
theorem dX3_worth_208 : decode cX3_worth 208 = .ok (.iinc 3 (-1), 3) := by decide +kernel
theorem dX3_worth_211 : decode cX3_worth 211 = .ok (.iinc 5 1, 3) := by decide +kernel
theorem dX3_worth_214 : decode cX3_worth 214 = .ok (.goto (-183), 3) := by decide +kernel
theorem dX3_worth_217 : decode cX3_worth 217 = .ok (.iconst 0, 1) := by decide +kernel
theorem dX3_worth_218 : decode cX3_worth 218 = .ok (.iload_n 2, 1) := by decide +kernel
theorem dX3_worth_219 : decode cX3_worth 219 = .ok (.aload_n 0, 1) := by decide +kernel
theorem dX3_worth_220 : decode cX3_worth 220 = .ok (.getfield 9, 3) := by decide +kernel
theorem dX3_worth_223 : decode cX3_worth 223 = .ok (.iconst 0, 1) := by decide +kernel
theorem dX3_worth_224 : decode cX3_worth 224 = .ok (.iaload, 1) := by decide +kernel
theorem dX3_worth_225 : decode cX3_worth 225 = .ok (.invokestatic 87, 3) := by decide +kernel
theorem dX3_worth_228 : decode cX3_worth 228 = .ok (.invokestatic 105, 3) := by decide +kernel
theorem dX3_worth_231 : decode cX3_worth 231 = .ok (.ireturn, 1) := by decide +kernel
theorem dX3_named_0 : decode cX3_named 0 = .ok (.iconst (-1), 1) := by decide +kernel
theorem dX3_named_1 : decode cX3_named 1 = .ok (.iload_n 1, 1) := by decide +kernel
theorem dX3_named_2 : decode cX3_named 2 = .ok (.isub, 1) := by decide +kernel
theorem dX3_named_3 : decode cX3_named 3 = .ok (.tableswitch 58 0 4 #[33, 38, 43, 48, 53], 33) := by decide +kernel
theorem dX3_named_36 : decode cX3_named 36 = .ok (.aload_n 0, 1) := by decide +kernel
theorem dX3_named_37 : decode cX3_named 37 = .ok (.getfield 31, 3) := by decide +kernel
theorem dX3_named_40 : decode cX3_named 40 = .ok (.ireturn, 1) := by decide +kernel
theorem dX3_named_41 : decode cX3_named 41 = .ok (.aload_n 0, 1) := by decide +kernel
theorem dX3_named_42 : decode cX3_named 42 = .ok (.getfield 28, 3) := by decide +kernel
theorem dX3_named_45 : decode cX3_named 45 = .ok (.ireturn, 1) := by decide +kernel
theorem dX3_named_46 : decode cX3_named 46 = .ok (.aload_n 0, 1) := by decide +kernel
theorem dX3_named_47 : decode cX3_named 47 = .ok (.getfield 49, 3) := by decide +kernel
theorem dX3_named_50 : decode cX3_named 50 = .ok (.ireturn, 1) := by decide +kernel
theorem dX3_named_51 : decode cX3_named 51 = .ok (.aload_n 0, 1) := by decide +kernel
theorem dX3_named_52 : decode cX3_named 52 = .ok (.getfield 25, 3) := by decide +kernel
theorem dX3_named_55 : decode cX3_named 55 = .ok (.ireturn, 1) := by decide +kernel
theorem dX3_named_56 : decode cX3_named 56 = .ok (.aload_n 0, 1) := by decide +kernel
theorem dX3_named_57 : decode cX3_named 57 = .ok (.getfield 40, 3) := by decide +kernel
theorem dX3_named_60 : decode cX3_named 60 = .ok (.ireturn, 1) := by decide +kernel
theorem dX3_named_61 : decode cX3_named 61 = .ok (.aload_n 0, 1) := by decide +kernel
theorem dX3_named_62 : decode cX3_named 62 = .ok (.getfield 58, 3) := by decide +kernel
theorem dX3_named_65 : decode cX3_named 65 = .ok (.ifCond .le 15, 3) := by decide +kernel
theorem dX3_named_68 : decode cX3_named 68 = .ok (.aload_n 0, 1) := by decide +kernel
theorem dX3_named_69 : decode cX3_named 69 = .ok (.getfield 61, 3) := by decide +kernel
theorem dX3_named_72 : decode cX3_named 72 = .ok (.aload_n 0, 1) := by decide +kernel
theorem dX3_named_73 : decode cX3_named 73 = .ok (.getfield 58, 3) := by decide +kernel
theorem dX3_named_76 : decode cX3_named 76 = .ok (.idiv, 1) := by decide +kernel
theorem dX3_named_77 : decode cX3_named 77 = .ok (.goto 4, 3) := by decide +kernel
theorem dX3_named_80 : decode cX3_named 80 = .ok (.iconst 0, 1) := by decide +kernel
theorem dX3_named_81 : decode cX3_named 81 = .ok (.ireturn, 1) := by decide +kernel
theorem dX3_thickness_0 : decode cX3_thickness 0 = .ok (.aload_n 0, 1) := by decide +kernel
theorem dX3_thickness_1 : decode cX3_thickness 1 = .ok (.getfield 37, 3) := by decide +kernel
theorem dX3_thickness_4 : decode cX3_thickness 4 = .ok (.iconst 3, 1) := by decide +kernel
theorem dX3_thickness_5 : decode cX3_thickness 5 = .ok (.aload_n 0, 1) := by decide +kernel
theorem dX3_thickness_6 : decode cX3_thickness 6 = .ok (.getfield 49, 3) := by decide +kernel
theorem dX3_thickness_9 : decode cX3_thickness 9 = .ok (.imul, 1) := by decide +kernel
theorem dX3_thickness_10 : decode cX3_thickness 10 = .ok (.iadd, 1) := by decide +kernel
theorem dX3_thickness_11 : decode cX3_thickness 11 = .ok (.aload_n 0, 1) := by decide +kernel
theorem dX3_thickness_12 : decode cX3_thickness 12 = .ok (.getfield 43, 3) := by decide +kernel
theorem dX3_thickness_15 : decode cX3_thickness 15 = .ok (.iadd, 1) := by decide +kernel
theorem dX3_thickness_16 : decode cX3_thickness 16 = .ok (.iconst 1, 1) := by decide +kernel
theorem dX3_thickness_17 : decode cX3_thickness 17 = .ok (.aload_n 0, 1) := by decide +kernel
theorem dX3_thickness_18 : decode cX3_thickness 18 = .ok (.getfield 25, 3) := by decide +kernel
theorem dX3_thickness_21 : decode cX3_thickness 21 = .ok (.bipush 10, 2) := by decide +kernel
theorem dX3_thickness_23 : decode cX3_thickness 23 = .ok (.idiv, 1) := by decide +kernel
theorem dX3_thickness_24 : decode cX3_thickness 24 = .ok (.invokestatic 105, 3) := by decide +kernel
theorem dX3_thickness_27 : decode cX3_thickness 27 = .ok (.idiv, 1) := by decide +kernel
theorem dX3_thickness_28 : decode cX3_thickness 28 = .ok (.ireturn, 1) := by decide +kernel
theorem dX3_threadsLong_0 : decode cX3_threadsLong 0 = .ok (.aload_n 0, 1) := by decide +kernel
theorem dX3_threadsLong_1 : decode cX3_threadsLong 1 = .ok (.getfield 37, 3) := by decide +kernel
theorem dX3_threadsLong_4 : decode cX3_threadsLong 4 = .ok (.ifCond .ne 7, 3) := by decide +kernel
theorem dX3_threadsLong_7 : decode cX3_threadsLong 7 = .ok (.iconst 0, 1) := by decide +kernel
theorem dX3_threadsLong_8 : decode cX3_threadsLong 8 = .ok (.goto 11, 3) := by decide +kernel
theorem dX3_threadsLong_11 : decode cX3_threadsLong 11 = .ok (.aload_n 0, 1) := by decide +kernel
theorem dX3_threadsLong_12 : decode cX3_threadsLong 12 = .ok (.iconst 2, 1) := by decide +kernel
theorem dX3_threadsLong_13 : decode cX3_threadsLong 13 = .ok (.sipush 999, 3) := by decide +kernel
theorem dX3_threadsLong_16 : decode cX3_threadsLong 16 = .ok (.invokevirtual 119, 3) := by decide +kernel
theorem dX3_threadsLong_19 : decode cX3_threadsLong 19 = .ok (.ireturn, 1) := by decide +kernel
theorem dX3_holdsNow_0 : decode cX3_holdsNow 0 = .ok (.aload_n 0, 1) := by decide +kernel
theorem dX3_holdsNow_1 : decode cX3_holdsNow 1 = .ok (.getfield 58, 3) := by decide +kernel
theorem dX3_holdsNow_4 : decode cX3_holdsNow 4 = .ok (.ifCond .eq 21, 3) := by decide +kernel
theorem dX3_holdsNow_7 : decode cX3_holdsNow 7 = .ok (.iconst 4, 1) := by decide +kernel
theorem dX3_holdsNow_8 : decode cX3_holdsNow 8 = .ok (.aload_n 0, 1) := by decide +kernel
theorem dX3_holdsNow_9 : decode cX3_holdsNow 9 = .ok (.getfield 46, 3) := by decide +kernel
theorem dX3_holdsNow_12 : decode cX3_holdsNow 12 = .ok (.imul, 1) := by decide +kernel
theorem dX3_holdsNow_13 : decode cX3_holdsNow 13 = .ok (.aload_n 0, 1) := by decide +kernel
theorem dX3_holdsNow_14 : decode cX3_holdsNow 14 = .ok (.getfield 40, 3) := by decide +kernel
theorem dX3_holdsNow_17 : decode cX3_holdsNow 17 = .ok (.aload_n 0, 1) := by decide +kernel
theorem dX3_holdsNow_18 : decode cX3_holdsNow 18 = .ok (.getfield 43, 3) := by decide +kernel
theorem dX3_holdsNow_21 : decode cX3_holdsNow 21 = .ok (.iadd, 1) := by decide +kernel
theorem dX3_holdsNow_22 : decode cX3_holdsNow 22 = .ok (.if_icmp .gt 7, 3) := by decide +kernel
theorem dX3_holdsNow_25 : decode cX3_holdsNow 25 = .ok (.iconst 1, 1) := by decide +kernel
theorem dX3_holdsNow_26 : decode cX3_holdsNow 26 = .ok (.goto 4, 3) := by decide +kernel
theorem dX3_holdsNow_29 : decode cX3_holdsNow 29 = .ok (.iconst 0, 1) := by decide +kernel
theorem dX3_holdsNow_30 : decode cX3_holdsNow 30 = .ok (.ireturn, 1) := by decide +kernel
theorem dX3_sortNow_0 : decode cX3_sortNow 0 = .ok (.aload_n 0, 1) := by decide +kernel
theorem dX3_sortNow_1 : decode cX3_sortNow 1 = .ok (.getfield 58, 3) := by decide +kernel
theorem dX3_sortNow_4 : decode cX3_sortNow 4 = .ok (.ifCond .ne 5, 3) := by decide +kernel
theorem dX3_sortNow_7 : decode cX3_sortNow 7 = .ok (.iconst 0, 1) := by decide +kernel
theorem dX3_sortNow_8 : decode cX3_sortNow 8 = .ok (.ireturn, 1) := by decide +kernel
theorem dX3_sortNow_9 : decode cX3_sortNow 9 = .ok (.aload_n 0, 1) := by decide +kernel
theorem dX3_sortNow_10 : decode cX3_sortNow 10 = .ok (.invokevirtual 147, 3) := by decide +kernel
theorem dX3_sortNow_13 : decode cX3_sortNow 13 = .ok (.ifCond .ne 33, 3) := by decide +kernel
theorem dX3_sortNow_16 : decode cX3_sortNow 16 = .ok (.aload_n 0, 1) := by decide +kernel
theorem dX3_sortNow_17 : decode cX3_sortNow 17 = .ok (.getfield 34, 3) := by decide +kernel
theorem dX3_sortNow_20 : decode cX3_sortNow 20 = .ok (.aload_n 0, 1) := by decide +kernel
theorem dX3_sortNow_21 : decode cX3_sortNow 21 = .ok (.getfield 37, 3) := by decide +kernel
theorem dX3_sortNow_24 : decode cX3_sortNow 24 = .ok (.if_icmp .le 20, 3) := by decide +kernel
theorem dX3_sortNow_27 : decode cX3_sortNow 27 = .ok (.aload_n 0, 1) := by decide +kernel
theorem dX3_sortNow_28 : decode cX3_sortNow 28 = .ok (.getfield 25, 3) := by decide +kernel
theorem dX3_sortNow_31 : decode cX3_sortNow 31 = .ok (.iconst 5, 1) := by decide +kernel
theorem dX3_sortNow_32 : decode cX3_sortNow 32 = .ok (.aload_n 0, 1) := by decide +kernel
theorem dX3_sortNow_33 : decode cX3_sortNow 33 = .ok (.getfield 58, 3) := by decide +kernel
theorem dX3_sortNow_36 : decode cX3_sortNow 36 = .ok (.imul, 1) := by decide +kernel
theorem dX3_sortNow_37 : decode cX3_sortNow 37 = .ok (.if_icmp .le 7, 3) := by decide +kernel
theorem dX3_sortNow_40 : decode cX3_sortNow 40 = .ok (.iconst 4, 1) := by decide +kernel
theorem dX3_sortNow_41 : decode cX3_sortNow 41 = .ok (.goto 4, 3) := by decide +kernel
theorem dX3_sortNow_44 : decode cX3_sortNow 44 = .ok (.iconst 3, 1) := by decide +kernel
theorem dX3_sortNow_45 : decode cX3_sortNow 45 = .ok (.ireturn, 1) := by decide +kernel
theorem dX3_sortNow_46 : decode cX3_sortNow 46 = .ok (.aload_n 0, 1) := by decide +kernel
theorem dX3_sortNow_47 : decode cX3_sortNow 47 = .ok (.getfield 34, 3) := by decide +kernel
theorem dX3_sortNow_50 : decode cX3_sortNow 50 = .ok (.aload_n 0, 1) := by decide +kernel
theorem dX3_sortNow_51 : decode cX3_sortNow 51 = .ok (.getfield 37, 3) := by decide +kernel
theorem dX3_sortNow_54 : decode cX3_sortNow 54 = .ok (.if_icmp .le 5, 3) := by decide +kernel
theorem dX3_sortNow_57 : decode cX3_sortNow 57 = .ok (.iconst 2, 1) := by decide +kernel
theorem dX3_sortNow_58 : decode cX3_sortNow 58 = .ok (.ireturn, 1) := by decide +kernel
theorem dX3_sortNow_59 : decode cX3_sortNow 59 = .ok (.aload_n 0, 1) := by decide +kernel
theorem dX3_sortNow_60 : decode cX3_sortNow 60 = .ok (.invokevirtual 150, 3) := by decide +kernel
theorem dX3_sortNow_63 : decode cX3_sortNow 63 = .ok (.bipush 60, 2) := by decide +kernel
theorem dX3_sortNow_65 : decode cX3_sortNow 65 = .ok (.if_icmp .le 5, 3) := by decide +kernel
theorem dX3_sortNow_68 : decode cX3_sortNow 68 = .ok (.iconst 5, 1) := by decide +kernel
theorem dX3_sortNow_69 : decode cX3_sortNow 69 = .ok (.ireturn, 1) := by decide +kernel
theorem dX3_sortNow_70 : decode cX3_sortNow 70 = .ok (.aload_n 0, 1) := by decide +kernel
theorem dX3_sortNow_71 : decode cX3_sortNow 71 = .ok (.invokevirtual 153, 3) := by decide +kernel
theorem dX3_sortNow_74 : decode cX3_sortNow 74 = .ok (.bipush 40, 2) := by decide +kernel
theorem dX3_sortNow_76 : decode cX3_sortNow 76 = .ok (.if_icmp .le 7, 3) := by decide +kernel
theorem dX3_sortNow_79 : decode cX3_sortNow 79 = .ok (.iconst 1, 1) := by decide +kernel
theorem dX3_sortNow_80 : decode cX3_sortNow 80 = .ok (.goto 4, 3) := by decide +kernel
theorem dX3_sortNow_83 : decode cX3_sortNow 83 = .ok (.iconst 0, 1) := by decide +kernel
theorem dX3_sortNow_84 : decode cX3_sortNow 84 = .ok (.ireturn, 1) := by decide +kernel
theorem dX3_canTell_0 : decode cX3_canTell 0 = .ok (.iload_n 0, 1) := by decide +kernel
theorem dX3_canTell_1 : decode cX3_canTell 1 = .ok (.ifCond .lt 13, 3) := by decide +kernel
theorem dX3_canTell_4 : decode cX3_canTell 4 = .ok (.iload_n 0, 1) := by decide +kernel
theorem dX3_canTell_5 : decode cX3_canTell 5 = .ok (.bipush 13, 2) := by decide +kernel
theorem dX3_canTell_7 : decode cX3_canTell 7 = .ok (.if_icmp .gt 7, 3) := by decide +kernel
theorem dX3_canTell_10 : decode cX3_canTell 10 = .ok (.iconst 1, 1) := by decide +kernel
theorem dX3_canTell_11 : decode cX3_canTell 11 = .ok (.goto 4, 3) := by decide +kernel
theorem dX3_canTell_14 : decode cX3_canTell 14 = .ok (.iconst 0, 1) := by decide +kernel
theorem dX3_canTell_15 : decode cX3_canTell 15 = .ok (.ireturn, 1) := by decide +kernel
theorem dX3_tell_0 : decode cX3_tell 0 = .ok (.iload_n 1, 1) := by decide +kernel
theorem dX3_tell_1 : decode cX3_tell 1 = .ok (.tableswitch 132 0 12 #[67, 72, 77, 82, 87, 92, 97, 102, 107, 112, 117, 122, 127], 67) := by decide +kernel
theorem dX3_tell_68 : decode cX3_tell 68 = .ok (.aload_n 0, 1) := by decide +kernel
theorem dX3_tell_69 : decode cX3_tell 69 = .ok (.getfield 34, 3) := by decide +kernel
theorem dX3_tell_72 : decode cX3_tell 72 = .ok (.ireturn, 1) := by decide +kernel
theorem dX3_tell_73 : decode cX3_tell 73 = .ok (.aload_n 0, 1) := by decide +kernel
theorem dX3_tell_74 : decode cX3_tell 74 = .ok (.getfield 37, 3) := by decide +kernel
theorem dX3_tell_77 : decode cX3_tell 77 = .ok (.ireturn, 1) := by decide +kernel
theorem dX3_tell_78 : decode cX3_tell 78 = .ok (.aload_n 0, 1) := by decide +kernel
theorem dX3_tell_79 : decode cX3_tell 79 = .ok (.getfield 40, 3) := by decide +kernel
theorem dX3_tell_82 : decode cX3_tell 82 = .ok (.ireturn, 1) := by decide +kernel
theorem dX3_tell_83 : decode cX3_tell 83 = .ok (.aload_n 0, 1) := by decide +kernel
theorem dX3_tell_84 : decode cX3_tell 84 = .ok (.getfield 43, 3) := by decide +kernel
theorem dX3_tell_87 : decode cX3_tell 87 = .ok (.ireturn, 1) := by decide +kernel
theorem dX3_tell_88 : decode cX3_tell 88 = .ok (.aload_n 0, 1) := by decide +kernel
theorem dX3_tell_89 : decode cX3_tell 89 = .ok (.getfield 46, 3) := by decide +kernel
theorem dX3_tell_92 : decode cX3_tell 92 = .ok (.ireturn, 1) := by decide +kernel
theorem dX3_tell_93 : decode cX3_tell 93 = .ok (.aload_n 0, 1) := by decide +kernel
theorem dX3_tell_94 : decode cX3_tell 94 = .ok (.getfield 25, 3) := by decide +kernel
theorem dX3_tell_97 : decode cX3_tell 97 = .ok (.ireturn, 1) := by decide +kernel
theorem dX3_tell_98 : decode cX3_tell 98 = .ok (.aload_n 0, 1) := by decide +kernel
theorem dX3_tell_99 : decode cX3_tell 99 = .ok (.getfield 28, 3) := by decide +kernel
theorem dX3_tell_102 : decode cX3_tell 102 = .ok (.ireturn, 1) := by decide +kernel
theorem dX3_tell_103 : decode cX3_tell 103 = .ok (.aload_n 0, 1) := by decide +kernel
theorem dX3_tell_104 : decode cX3_tell 104 = .ok (.getfield 49, 3) := by decide +kernel
theorem dX3_tell_107 : decode cX3_tell 107 = .ok (.ireturn, 1) := by decide +kernel
theorem dX3_tell_108 : decode cX3_tell 108 = .ok (.aload_n 0, 1) := by decide +kernel
theorem dX3_tell_109 : decode cX3_tell 109 = .ok (.getfield 31, 3) := by decide +kernel
theorem dX3_tell_112 : decode cX3_tell 112 = .ok (.ireturn, 1) := by decide +kernel
theorem dX3_tell_113 : decode cX3_tell 113 = .ok (.aload_n 0, 1) := by decide +kernel
theorem dX3_tell_114 : decode cX3_tell 114 = .ok (.getfield 55, 3) := by decide +kernel
theorem dX3_tell_117 : decode cX3_tell 117 = .ok (.ireturn, 1) := by decide +kernel
theorem dX3_tell_118 : decode cX3_tell 118 = .ok (.aload_n 0, 1) := by decide +kernel
theorem dX3_tell_119 : decode cX3_tell 119 = .ok (.getfield 52, 3) := by decide +kernel
theorem dX3_tell_122 : decode cX3_tell 122 = .ok (.ireturn, 1) := by decide +kernel
theorem dX3_tell_123 : decode cX3_tell 123 = .ok (.aload_n 0, 1) := by decide +kernel
theorem dX3_tell_124 : decode cX3_tell 124 = .ok (.invokevirtual 150, 3) := by decide +kernel
theorem dX3_tell_127 : decode cX3_tell 127 = .ok (.ireturn, 1) := by decide +kernel
theorem dX3_tell_128 : decode cX3_tell 128 = .ok (.aload_n 0, 1) := by decide +kernel
theorem dX3_tell_129 : decode cX3_tell 129 = .ok (.invokevirtual 153, 3) := by decide +kernel
theorem dX3_tell_132 : decode cX3_tell 132 = .ok (.ireturn, 1) := by decide +kernel
theorem dX3_tell_133 : decode cX3_tell 133 = .ok (.aload_n 0, 1) := by decide +kernel
theorem dX3_tell_134 : decode cX3_tell 134 = .ok (.invokevirtual 156, 3) := by decide +kernel
theorem dX3_tell_137 : decode cX3_tell 137 = .ok (.ireturn, 1) := by decide +kernel
theorem dX4_init_0 : decode cX4_init 0 = .ok (.aload_n 0, 1) := by decide +kernel
theorem dX4_init_1 : decode cX4_init 1 = .ok (.invokespecial 3, 3) := by decide +kernel
theorem dX4_init_4 : decode cX4_init 4 = .ok (.aload_n 0, 1) := by decide +kernel
theorem dX4_init_5 : decode cX4_init 5 = .ok (.sipush 160, 3) := by decide +kernel
theorem dX4_init_8 : decode cX4_init 8 = .ok (.newarray .int, 2) := by decide +kernel
theorem dX4_init_10 : decode cX4_init 10 = .ok (.putfield 11, 3) := by decide +kernel
theorem dX4_init_13 : decode cX4_init 13 = .ok (.aload_n 0, 1) := by decide +kernel
theorem dX4_init_14 : decode cX4_init 14 = .ok (.sipush 160, 3) := by decide +kernel
theorem dX4_init_17 : decode cX4_init 17 = .ok (.newarray .int, 2) := by decide +kernel
theorem dX4_init_19 : decode cX4_init 19 = .ok (.putfield 15, 3) := by decide +kernel
theorem dX4_init_22 : decode cX4_init 22 = .ok (.aload_n 0, 1) := by decide +kernel
theorem dX4_init_23 : decode cX4_init 23 = .ok (.iconst 3, 1) := by decide +kernel
theorem dX4_init_24 : decode cX4_init 24 = .ok (.newarray .int, 2) := by decide +kernel
theorem dX4_init_26 : decode cX4_init 26 = .ok (.putfield 18, 3) := by decide +kernel
theorem dX4_init_29 : decode cX4_init 29 = .ok (.return_, 1) := by decide +kernel
theorem dX4_size_0 : decode cX4_size 0 = .ok (.aload_n 0, 1) := by decide +kernel
theorem dX4_size_1 : decode cX4_size 1 = .ok (.getfield 21, 3) := by decide +kernel
theorem dX4_size_4 : decode cX4_size 4 = .ok (.ireturn, 1) := by decide +kernel
theorem dX4_hasRoom_0 : decode cX4_hasRoom 0 = .ok (.iload_n 1, 1) := by decide +kernel
theorem dX4_hasRoom_1 : decode cX4_hasRoom 1 = .ok (.sipush 160, 3) := by decide +kernel
theorem dX4_hasRoom_4 : decode cX4_hasRoom 4 = .ok (.aload_n 0, 1) := by decide +kernel
theorem dX4_hasRoom_5 : decode cX4_hasRoom 5 = .ok (.getfield 21, 3) := by decide +kernel
theorem dX4_hasRoom_8 : decode cX4_hasRoom 8 = .ok (.isub, 1) := by decide +kernel
theorem dX4_hasRoom_9 : decode cX4_hasRoom 9 = .ok (.if_icmp .gt 7, 3) := by decide +kernel
theorem dX4_hasRoom_12 : decode cX4_hasRoom 12 = .ok (.iconst 1, 1) := by decide +kernel
theorem dX4_hasRoom_13 : decode cX4_hasRoom 13 = .ok (.goto 4, 3) := by decide +kernel
theorem dX4_hasRoom_16 : decode cX4_hasRoom 16 = .ok (.iconst 0, 1) := by decide +kernel
theorem dX4_hasRoom_17 : decode cX4_hasRoom 17 = .ok (.ireturn, 1) := by decide +kernel
theorem dX4_add_0 : decode cX4_add 0 = .ok (.aload_n 0, 1) := by decide +kernel
theorem dX4_add_1 : decode cX4_add 1 = .ok (.getfield 21, 3) := by decide +kernel
theorem dX4_add_4 : decode cX4_add 4 = .ok (.aload_n 0, 1) := by decide +kernel
theorem dX4_add_5 : decode cX4_add 5 = .ok (.getfield 11, 3) := by decide +kernel
theorem dX4_add_8 : decode cX4_add 8 = .ok (.arraylength, 1) := by decide +kernel
theorem dX4_add_9 : decode cX4_add 9 = .ok (.if_icmp .ge 23, 3) := by decide +kernel
theorem dX4_add_12 : decode cX4_add 12 = .ok (.aload_n 0, 1) := by decide +kernel
theorem dX4_add_13 : decode cX4_add 13 = .ok (.getfield 11, 3) := by decide +kernel
theorem dX4_add_16 : decode cX4_add 16 = .ok (.aload_n 0, 1) := by decide +kernel
theorem dX4_add_17 : decode cX4_add 17 = .ok (.getfield 21, 3) := by decide +kernel
theorem dX4_add_20 : decode cX4_add 20 = .ok (.iload_n 1, 1) := by decide +kernel
theorem dX4_add_21 : decode cX4_add 21 = .ok (.iastore, 1) := by decide +kernel
theorem dX4_add_22 : decode cX4_add 22 = .ok (.aload_n 0, 1) := by decide +kernel
theorem dX4_add_23 : decode cX4_add 23 = .ok (.dup, 1) := by decide +kernel
theorem dX4_add_24 : decode cX4_add 24 = .ok (.getfield 21, 3) := by decide +kernel
theorem dX4_add_27 : decode cX4_add 27 = .ok (.iconst 1, 1) := by decide +kernel
theorem dX4_add_28 : decode cX4_add 28 = .ok (.iadd, 1) := by decide +kernel
theorem dX4_add_29 : decode cX4_add 29 = .ok (.putfield 21, 3) := by decide +kernel
theorem dX4_add_32 : decode cX4_add 32 = .ok (.return_, 1) := by decide +kernel
theorem dX4_faultPlace_0 : decode cX4_faultPlace 0 = .ok (.aload_n 0, 1) := by decide +kernel
theorem dX4_faultPlace_1 : decode cX4_faultPlace 1 = .ok (.getfield 25, 3) := by decide +kernel
theorem dX4_faultPlace_4 : decode cX4_faultPlace 4 = .ok (.ireturn, 1) := by decide +kernel
theorem dX4_readLaw_0 : decode cX4_readLaw 0 = .ok (.aload_n 0, 1) := by decide +kernel
theorem dX4_readLaw_1 : decode cX4_readLaw 1 = .ok (.iconst 0, 1) := by decide +kernel
theorem dX4_readLaw_2 : decode cX4_readLaw 2 = .ok (.putfield 28, 3) := by decide +kernel
theorem dX4_readLaw_5 : decode cX4_readLaw 5 = .ok (.aload_n 0, 1) := by decide +kernel
theorem dX4_readLaw_6 : decode cX4_readLaw 6 = .ok (.iconst (-1), 1) := by decide +kernel
theorem dX4_readLaw_7 : decode cX4_readLaw 7 = .ok (.putfield 25, 3) := by decide +kernel
theorem dX4_readLaw_10 : decode cX4_readLaw 10 = .ok (.aload_n 0, 1) := by decide +kernel
theorem dX4_readLaw_11 : decode cX4_readLaw 11 = .ok (.iconst 0, 1) := by decide +kernel
theorem dX4_readLaw_12 : decode cX4_readLaw 12 = .ok (.putfield 31, 3) := by decide +kernel
theorem dX4_readLaw_15 : decode cX4_readLaw 15 = .ok (.aload_n 0, 1) := by decide +kernel
theorem dX4_readLaw_16 : decode cX4_readLaw 16 = .ok (.invokevirtual 34, 3) := by decide +kernel
theorem dX4_readLaw_19 : decode cX4_readLaw 19 = .ok (.iconst 0, 1) := by decide +kernel
theorem dX4_readLaw_20 : decode cX4_readLaw 20 = .ok (.istore_n 1, 1) := by decide +kernel
theorem dX4_readLaw_21 : decode cX4_readLaw 21 = .ok (.iload_n 1, 1) := by decide +kernel
theorem dX4_readLaw_22 : decode cX4_readLaw 22 = .ok (.aload_n 0, 1) := by decide +kernel
theorem dX4_readLaw_23 : decode cX4_readLaw 23 = .ok (.getfield 18, 3) := by decide +kernel
theorem dX4_readLaw_26 : decode cX4_readLaw 26 = .ok (.arraylength, 1) := by decide +kernel
theorem dX4_readLaw_27 : decode cX4_readLaw 27 = .ok (.if_icmp .ge 39, 3) := by decide +kernel
theorem dX4_readLaw_30 : decode cX4_readLaw 30 = .ok (.aload_n 0, 1) := by decide +kernel
theorem dX4_readLaw_31 : decode cX4_readLaw 31 = .ok (.sipush 1000, 3) := by decide +kernel
theorem dX4_readLaw_34 : decode cX4_readLaw 34 = .ok (.iload_n 1, 1) := by decide +kernel
theorem dX4_readLaw_35 : decode cX4_readLaw 35 = .ok (.iadd, 1) := by decide +kernel
theorem dX4_readLaw_36 : decode cX4_readLaw 36 = .ok (.invokevirtual 37, 3) := by decide +kernel
theorem dX4_readLaw_39 : decode cX4_readLaw 39 = .ok (.aload_n 0, 1) := by decide +kernel
theorem dX4_readLaw_40 : decode cX4_readLaw 40 = .ok (.iconst 0, 1) := by decide +kernel
theorem dX4_readLaw_41 : decode cX4_readLaw 41 = .ok (.invokevirtual 41, 3) := by decide +kernel
theorem dX4_readLaw_44 : decode cX4_readLaw 44 = .ok (.aload_n 0, 1) := by decide +kernel
theorem dX4_readLaw_45 : decode cX4_readLaw 45 = .ok (.bipush 59, 2) := by decide +kernel
theorem dX4_readLaw_47 : decode cX4_readLaw 47 = .ok (.invokevirtual 37, 3) := by decide +kernel
theorem dX4_readLaw_50 : decode cX4_readLaw 50 = .ok (.aload_n 0, 1) := by decide +kernel
theorem dX4_readLaw_51 : decode cX4_readLaw 51 = .ok (.getfield 18, 3) := by decide +kernel
theorem dX4_readLaw_54 : decode cX4_readLaw 54 = .ok (.iload_n 1, 1) := by decide +kernel
theorem dX4_readLaw_55 : decode cX4_readLaw 55 = .ok (.aload_n 0, 1) := by decide +kernel
theorem dX4_readLaw_56 : decode cX4_readLaw 56 = .ok (.getfield 31, 3) := by decide +kernel
theorem dX4_readLaw_59 : decode cX4_readLaw 59 = .ok (.iastore, 1) := by decide +kernel
theorem dX4_readLaw_60 : decode cX4_readLaw 60 = .ok (.iinc 1 1, 3) := by decide +kernel
theorem dX4_readLaw_63 : decode cX4_readLaw 63 = .ok (.goto (-42), 3) := by decide +kernel
theorem dX4_readLaw_66 : decode cX4_readLaw 66 = .ok (.aload_n 0, 1) := by decide +kernel
theorem dX4_readLaw_67 : decode cX4_readLaw 67 = .ok (.iconst 0, 1) := by decide +kernel
theorem dX4_readLaw_68 : decode cX4_readLaw 68 = .ok (.invokevirtual 37, 3) := by decide +kernel
theorem dX4_readLaw_71 : decode cX4_readLaw 71 = .ok (.aload_n 0, 1) := by decide +kernel
theorem dX4_readLaw_72 : decode cX4_readLaw 72 = .ok (.iconst 0, 1) := by decide +kernel
theorem dX4_readLaw_73 : decode cX4_readLaw 73 = .ok (.putfield 21, 3) := by decide +kernel
theorem dX4_readLaw_76 : decode cX4_readLaw 76 = .ok (.aload_n 0, 1) := by decide +kernel
theorem dX4_readLaw_77 : decode cX4_readLaw 77 = .ok (.getfield 25, 3) := by decide +kernel
theorem dX4_readLaw_80 : decode cX4_readLaw 80 = .ok (.iconst (-1), 1) := by decide +kernel
theorem dX4_readLaw_81 : decode cX4_readLaw 81 = .ok (.if_icmp .ne 22, 3) := by decide +kernel
theorem dX4_readLaw_84 : decode cX4_readLaw 84 = .ok (.aload_n 0, 1) := by decide +kernel
theorem dX4_readLaw_85 : decode cX4_readLaw 85 = .ok (.getfield 31, 3) := by decide +kernel
theorem dX4_readLaw_88 : decode cX4_readLaw 88 = .ok (.ifCond .lt 15, 3) := by decide +kernel
theorem dX4_readLaw_91 : decode cX4_readLaw 91 = .ok (.aload_n 0, 1) := by decide +kernel
theorem dX4_readLaw_92 : decode cX4_readLaw 92 = .ok (.getfield 31, 3) := by decide +kernel
theorem dX4_readLaw_95 : decode cX4_readLaw 95 = .ok (.aload_n 0, 1) := by decide +kernel
theorem dX4_readLaw_96 : decode cX4_readLaw 96 = .ok (.getfield 15, 3) := by decide +kernel
theorem dX4_readLaw_99 : decode cX4_readLaw 99 = .ok (.arraylength, 1) := by decide +kernel
theorem dX4_readLaw_100 : decode cX4_readLaw 100 = .ok (.if_icmp .le 5, 3) := by decide +kernel
theorem dX4_readLaw_103 : decode cX4_readLaw 103 = .ok (.aconst_null, 1) := by decide +kernel
theorem dX4_readLaw_104 : decode cX4_readLaw 104 = .ok (.areturn, 1) := by decide +kernel
theorem dX4_readLaw_105 : decode cX4_readLaw 105 = .ok (.aload_n 0, 1) := by decide +kernel
theorem dX4_readLaw_106 : decode cX4_readLaw 106 = .ok (.getfield 31, 3) := by decide +kernel
theorem dX4_readLaw_109 : decode cX4_readLaw 109 = .ok (.newarray .int, 2) := by decide +kernel
theorem dX4_readLaw_111 : decode cX4_readLaw 111 = .ok (.astore_n 1, 1) := by decide +kernel
theorem dX4_readLaw_112 : decode cX4_readLaw 112 = .ok (.aload_n 0, 1) := by decide +kernel
theorem dX4_readLaw_113 : decode cX4_readLaw 113 = .ok (.getfield 15, 3) := by decide +kernel
theorem dX4_readLaw_116 : decode cX4_readLaw 116 = .ok (.iconst 0, 1) := by decide +kernel
theorem dX4_readLaw_117 : decode cX4_readLaw 117 = .ok (.aload_n 1, 1) := by decide +kernel
theorem dX4_readLaw_118 : decode cX4_readLaw 118 = .ok (.iconst 0, 1) := by decide +kernel
theorem dX4_readLaw_119 : decode cX4_readLaw 119 = .ok (.aload_n 0, 1) := by decide +kernel
theorem dX4_readLaw_120 : decode cX4_readLaw 120 = .ok (.getfield 31, 3) := by decide +kernel
theorem dX4_readLaw_123 : decode cX4_readLaw 123 = .ok (.invokestatic 44, 3) := by decide +kernel
theorem dX4_readLaw_126 : decode cX4_readLaw 126 = .ok (.new 50, 3) := by decide +kernel
theorem dX4_readLaw_129 : decode cX4_readLaw 129 = .ok (.dup, 1) := by decide +kernel
theorem dX4_readLaw_130 : decode cX4_readLaw 130 = .ok (.aload_n 1, 1) := by decide +kernel
theorem dX4_readLaw_131 : decode cX4_readLaw 131 = .ok (.aload_n 0, 1) := by decide +kernel
theorem dX4_readLaw_132 : decode cX4_readLaw 132 = .ok (.getfield 18, 3) := by decide +kernel
theorem dX4_readLaw_135 : decode cX4_readLaw 135 = .ok (.iconst 0, 1) := by decide +kernel
theorem dX4_readLaw_136 : decode cX4_readLaw 136 = .ok (.iaload, 1) := by decide +kernel
theorem dX4_readLaw_137 : decode cX4_readLaw 137 = .ok (.aload_n 0, 1) := by decide +kernel
theorem dX4_readLaw_138 : decode cX4_readLaw 138 = .ok (.getfield 18, 3) := by decide +kernel
theorem dX4_readLaw_141 : decode cX4_readLaw 141 = .ok (.iconst 1, 1) := by decide +kernel
theorem dX4_readLaw_142 : decode cX4_readLaw 142 = .ok (.iaload, 1) := by decide +kernel
theorem dX4_readLaw_143 : decode cX4_readLaw 143 = .ok (.invokespecial 52, 3) := by decide +kernel
theorem dX4_readLaw_146 : decode cX4_readLaw 146 = .ok (.areturn, 1) := by decide +kernel
theorem dX4_readAny_0 : decode cX4_readAny 0 = .ok (.aload_n 0, 1) := by decide +kernel
theorem dX4_readAny_1 : decode cX4_readAny 1 = .ok (.iload_n 1, 1) := by decide +kernel
theorem dX4_readAny_2 : decode cX4_readAny 2 = .ok (.invokevirtual 55, 3) := by decide +kernel
theorem dX4_readAny_5 : decode cX4_readAny 5 = .ok (.iconst 0, 1) := by decide +kernel
theorem dX4_readAny_6 : decode cX4_readAny 6 = .ok (.istore_n 2, 1) := by decide +kernel
theorem dX4_readAny_7 : decode cX4_readAny 7 = .ok (.iload_n 2, 1) := by decide +kernel
theorem dX4_readAny_8 : decode cX4_readAny 8 = .ok (.sipush 160, 3) := by decide +kernel
theorem dX4_readAny_11 : decode cX4_readAny 11 = .ok (.if_icmp .ge 34, 3) := by decide +kernel
theorem dX4_readAny_14 : decode cX4_readAny 14 = .ok (.aload_n 0, 1) := by decide +kernel
theorem dX4_readAny_15 : decode cX4_readAny 15 = .ok (.sipush 1003, 3) := by decide +kernel
theorem dX4_readAny_18 : decode cX4_readAny 18 = .ok (.invokevirtual 58, 3) := by decide +kernel
theorem dX4_readAny_21 : decode cX4_readAny 21 = .ok (.ifCond .eq 24, 3) := by decide +kernel
theorem dX4_readAny_24 : decode cX4_readAny 24 = .ok (.aload_n 0, 1) := by decide +kernel
theorem dX4_readAny_25 : decode cX4_readAny 25 = .ok (.invokevirtual 34, 3) := by decide +kernel
theorem dX4_readAny_28 : decode cX4_readAny 28 = .ok (.aload_n 0, 1) := by decide +kernel
theorem dX4_readAny_29 : decode cX4_readAny 29 = .ok (.iload_n 1, 1) := by decide +kernel
theorem dX4_readAny_30 : decode cX4_readAny 30 = .ok (.invokevirtual 55, 3) := by decide +kernel
theorem dX4_readAny_33 : decode cX4_readAny 33 = .ok (.aload_n 0, 1) := by decide +kernel
theorem dX4_readAny_34 : decode cX4_readAny 34 = .ok (.bipush (-21), 2) := by decide +kernel
theorem dX4_readAny_36 : decode cX4_readAny 36 = .ok (.invokevirtual 62, 3) := by decide +kernel
theorem dX4_readAny_39 : decode cX4_readAny 39 = .ok (.iinc 2 1, 3) := by decide +kernel
theorem dX4_readAny_42 : decode cX4_readAny 42 = .ok (.goto (-35), 3) := by decide +kernel
theorem dX4_readAny_45 : decode cX4_readAny 45 = .ok (.return_, 1) := by decide +kernel
theorem dX4_readAll_0 : decode cX4_readAll 0 = .ok (.aload_n 0, 1) := by decide +kernel
theorem dX4_readAll_1 : decode cX4_readAll 1 = .ok (.iload_n 1, 1) := by decide +kernel
theorem dX4_readAll_2 : decode cX4_readAll 2 = .ok (.invokevirtual 65, 3) := by decide +kernel
theorem dX4_readAll_5 : decode cX4_readAll 5 = .ok (.iconst 0, 1) := by decide +kernel
theorem dX4_readAll_6 : decode cX4_readAll 6 = .ok (.istore_n 2, 1) := by decide +kernel
theorem dX4_readAll_7 : decode cX4_readAll 7 = .ok (.iload_n 2, 1) := by decide +kernel
theorem dX4_readAll_8 : decode cX4_readAll 8 = .ok (.sipush 160, 3) := by decide +kernel
theorem dX4_readAll_11 : decode cX4_readAll 11 = .ok (.if_icmp .ge 34, 3) := by decide +kernel
theorem dX4_readAll_14 : decode cX4_readAll 14 = .ok (.aload_n 0, 1) := by decide +kernel
theorem dX4_readAll_15 : decode cX4_readAll 15 = .ok (.sipush 1004, 3) := by decide +kernel
theorem dX4_readAll_18 : decode cX4_readAll 18 = .ok (.invokevirtual 58, 3) := by decide +kernel
theorem dX4_readAll_21 : decode cX4_readAll 21 = .ok (.ifCond .eq 24, 3) := by decide +kernel
theorem dX4_readAll_24 : decode cX4_readAll 24 = .ok (.aload_n 0, 1) := by decide +kernel
theorem dX4_readAll_25 : decode cX4_readAll 25 = .ok (.invokevirtual 34, 3) := by decide +kernel
theorem dX4_readAll_28 : decode cX4_readAll 28 = .ok (.aload_n 0, 1) := by decide +kernel
theorem dX4_readAll_29 : decode cX4_readAll 29 = .ok (.iload_n 1, 1) := by decide +kernel
theorem dX4_readAll_30 : decode cX4_readAll 30 = .ok (.invokevirtual 65, 3) := by decide +kernel
theorem dX4_readAll_33 : decode cX4_readAll 33 = .ok (.aload_n 0, 1) := by decide +kernel
theorem dX4_readAll_34 : decode cX4_readAll 34 = .ok (.bipush (-22), 2) := by decide +kernel
theorem dX4_readAll_36 : decode cX4_readAll 36 = .ok (.invokevirtual 62, 3) := by decide +kernel
theorem dX4_readAll_39 : decode cX4_readAll 39 = .ok (.iinc 2 1, 3) := by decide +kernel
theorem dX4_readAll_42 : decode cX4_readAll 42 = .ok (.goto (-35), 3) := by decide +kernel
theorem dX4_readAll_45 : decode cX4_readAll 45 = .ok (.return_, 1) := by decide +kernel
theorem dX4_readNot_0 : decode cX4_readNot 0 = .ok (.aload_n 0, 1) := by decide +kernel
theorem dX4_readNot_1 : decode cX4_readNot 1 = .ok (.sipush 1005, 3) := by decide +kernel
theorem dX4_readNot_4 : decode cX4_readNot 4 = .ok (.invokevirtual 58, 3) := by decide +kernel
theorem dX4_readNot_7 : decode cX4_readNot 7 = .ok (.ifCond .eq 29, 3) := by decide +kernel
theorem dX4_readNot_10 : decode cX4_readNot 10 = .ok (.aload_n 0, 1) := by decide +kernel
theorem dX4_readNot_11 : decode cX4_readNot 11 = .ok (.iload_n 1, 1) := by decide +kernel
theorem dX4_readNot_12 : decode cX4_readNot 12 = .ok (.invokevirtual 68, 3) := by decide +kernel
theorem dX4_readNot_15 : decode cX4_readNot 15 = .ok (.ifCond .eq 20, 3) := by decide +kernel
theorem dX4_readNot_18 : decode cX4_readNot 18 = .ok (.aload_n 0, 1) := by decide +kernel
theorem dX4_readNot_19 : decode cX4_readNot 19 = .ok (.invokevirtual 34, 3) := by decide +kernel
theorem dX4_readNot_22 : decode cX4_readNot 22 = .ok (.aload_n 0, 1) := by decide +kernel
theorem dX4_readNot_23 : decode cX4_readNot 23 = .ok (.iload_n 1, 1) := by decide +kernel
theorem dX4_readNot_24 : decode cX4_readNot 24 = .ok (.iconst 1, 1) := by decide +kernel
theorem dX4_readNot_25 : decode cX4_readNot 25 = .ok (.iadd, 1) := by decide +kernel
theorem dX4_readNot_26 : decode cX4_readNot 26 = .ok (.invokevirtual 65, 3) := by decide +kernel
theorem dX4_readNot_29 : decode cX4_readNot 29 = .ok (.aload_n 0, 1) := by decide +kernel
theorem dX4_readNot_30 : decode cX4_readNot 30 = .ok (.bipush (-11), 2) := by decide +kernel
theorem dX4_readNot_32 : decode cX4_readNot 32 = .ok (.invokevirtual 62, 3) := by decide +kernel
theorem dX4_readNot_35 : decode cX4_readNot 35 = .ok (.return_, 1) := by decide +kernel
theorem dX4_readNot_36 : decode cX4_readNot 36 = .ok (.aload_n 0, 1) := by decide +kernel
theorem dX4_readNot_37 : decode cX4_readNot 37 = .ok (.iload_n 1, 1) := by decide +kernel
theorem dX4_readNot_38 : decode cX4_readNot 38 = .ok (.invokevirtual 71, 3) := by decide +kernel
theorem dX4_readNot_41 : decode cX4_readNot 41 = .ok (.aload_n 0, 1) := by decide +kernel
theorem dX4_readNot_42 : decode cX4_readNot 42 = .ok (.bipush 60, 2) := by decide +kernel
theorem dX4_readNot_44 : decode cX4_readNot 44 = .ok (.invokevirtual 58, 3) := by decide +kernel
theorem dX4_readNot_47 : decode cX4_readNot 47 = .ok (.ifCond .ne 12, 3) := by decide +kernel
theorem dX4_readNot_50 : decode cX4_readNot 50 = .ok (.aload_n 0, 1) := by decide +kernel
theorem dX4_readNot_51 : decode cX4_readNot 51 = .ok (.bipush 61, 2) := by decide +kernel
theorem dX4_readNot_53 : decode cX4_readNot 53 = .ok (.invokevirtual 58, 3) := by decide +kernel
theorem dX4_readNot_56 : decode cX4_readNot 56 = .ok (.ifCond .eq 34, 3) := by decide +kernel
theorem dX4_readNot_59 : decode cX4_readNot 59 = .ok (.aload_n 0, 1) := by decide +kernel
theorem dX4_readNot_60 : decode cX4_readNot 60 = .ok (.getfield 74, 3) := by decide +kernel
theorem dX4_readNot_63 : decode cX4_readNot 63 = .ok (.bipush 60, 2) := by decide +kernel
theorem dX4_readNot_65 : decode cX4_readNot 65 = .ok (.if_icmp .ne 8, 3) := by decide +kernel
theorem dX4_readNot_68 : decode cX4_readNot 68 = .ok (.bipush (-23), 2) := by decide +kernel
theorem dX4_readNot_70 : decode cX4_readNot 70 = .ok (.goto 5, 3) := by decide +kernel
theorem dX4_readNot_73 : decode cX4_readNot 73 = .ok (.bipush (-24), 2) := by decide +kernel
theorem dX4_readNot_75 : decode cX4_readNot 75 = .ok (.istore_n 2, 1) := by decide +kernel
theorem dX4_readNot_76 : decode cX4_readNot 76 = .ok (.aload_n 0, 1) := by decide +kernel
theorem dX4_readNot_77 : decode cX4_readNot 77 = .ok (.invokevirtual 34, 3) := by decide +kernel
theorem dX4_readNot_80 : decode cX4_readNot 80 = .ok (.aload_n 0, 1) := by decide +kernel
theorem dX4_readNot_81 : decode cX4_readNot 81 = .ok (.iload_n 1, 1) := by decide +kernel
theorem dX4_readNot_82 : decode cX4_readNot 82 = .ok (.invokevirtual 71, 3) := by decide +kernel
theorem dX4_readNot_85 : decode cX4_readNot 85 = .ok (.aload_n 0, 1) := by decide +kernel
theorem dX4_readNot_86 : decode cX4_readNot 86 = .ok (.iload_n 2, 1) := by decide +kernel
theorem dX4_readNot_87 : decode cX4_readNot 87 = .ok (.invokevirtual 62, 3) := by decide +kernel
theorem dX4_readNot_90 : decode cX4_readNot 90 = .ok (.return_, 1) := by decide +kernel
theorem dX4_readSum_0 : decode cX4_readSum 0 = .ok (.aload_n 0, 1) := by decide +kernel
theorem dX4_readSum_1 : decode cX4_readSum 1 = .ok (.iload_n 1, 1) := by decide +kernel
theorem dX4_readSum_2 : decode cX4_readSum 2 = .ok (.invokevirtual 77, 3) := by decide +kernel
theorem dX4_readSum_5 : decode cX4_readSum 5 = .ok (.iconst 0, 1) := by decide +kernel
theorem dX4_readSum_6 : decode cX4_readSum 6 = .ok (.istore_n 2, 1) := by decide +kernel
theorem dX4_readSum_7 : decode cX4_readSum 7 = .ok (.iload_n 2, 1) := by decide +kernel
theorem dX4_readSum_8 : decode cX4_readSum 8 = .ok (.sipush 160, 3) := by decide +kernel
theorem dX4_readSum_11 : decode cX4_readSum 11 = .ok (.if_icmp .ge 58, 3) := by decide +kernel
theorem dX4_readSum_14 : decode cX4_readSum 14 = .ok (.aload_n 0, 1) := by decide +kernel
theorem dX4_readSum_15 : decode cX4_readSum 15 = .ok (.bipush 43, 2) := by decide +kernel
theorem dX4_readSum_17 : decode cX4_readSum 17 = .ok (.invokevirtual 58, 3) := by decide +kernel
theorem dX4_readSum_20 : decode cX4_readSum 20 = .ok (.ifCond .ne 12, 3) := by decide +kernel
theorem dX4_readSum_23 : decode cX4_readSum 23 = .ok (.aload_n 0, 1) := by decide +kernel
theorem dX4_readSum_24 : decode cX4_readSum 24 = .ok (.bipush 45, 2) := by decide +kernel
theorem dX4_readSum_26 : decode cX4_readSum 26 = .ok (.invokevirtual 58, 3) := by decide +kernel
theorem dX4_readSum_29 : decode cX4_readSum 29 = .ok (.ifCond .eq 40, 3) := by decide +kernel
theorem dX4_readSum_32 : decode cX4_readSum 32 = .ok (.aload_n 0, 1) := by decide +kernel
theorem dX4_readSum_33 : decode cX4_readSum 33 = .ok (.getfield 74, 3) := by decide +kernel
theorem dX4_readSum_36 : decode cX4_readSum 36 = .ok (.bipush 43, 2) := by decide +kernel
theorem dX4_readSum_38 : decode cX4_readSum 38 = .ok (.if_icmp .ne 8, 3) := by decide +kernel
theorem dX4_readSum_41 : decode cX4_readSum 41 = .ok (.bipush (-25), 2) := by decide +kernel
theorem dX4_readSum_43 : decode cX4_readSum 43 = .ok (.goto 5, 3) := by decide +kernel
theorem dX4_readSum_46 : decode cX4_readSum 46 = .ok (.bipush (-26), 2) := by decide +kernel
theorem dX4_readSum_48 : decode cX4_readSum 48 = .ok (.istore_n 3, 1) := by decide +kernel
theorem dX4_readSum_49 : decode cX4_readSum 49 = .ok (.aload_n 0, 1) := by decide +kernel
theorem dX4_readSum_50 : decode cX4_readSum 50 = .ok (.invokevirtual 34, 3) := by decide +kernel
theorem dX4_readSum_53 : decode cX4_readSum 53 = .ok (.aload_n 0, 1) := by decide +kernel
theorem dX4_readSum_54 : decode cX4_readSum 54 = .ok (.iload_n 1, 1) := by decide +kernel
theorem dX4_readSum_55 : decode cX4_readSum 55 = .ok (.invokevirtual 77, 3) := by decide +kernel
theorem dX4_readSum_58 : decode cX4_readSum 58 = .ok (.aload_n 0, 1) := by decide +kernel
theorem dX4_readSum_59 : decode cX4_readSum 59 = .ok (.iload_n 3, 1) := by decide +kernel
theorem dX4_readSum_60 : decode cX4_readSum 60 = .ok (.invokevirtual 62, 3) := by decide +kernel
theorem dX4_readSum_63 : decode cX4_readSum 63 = .ok (.iinc 2 1, 3) := by decide +kernel
theorem dX4_readSum_66 : decode cX4_readSum 66 = .ok (.goto (-59), 3) := by decide +kernel
theorem dX4_readSum_69 : decode cX4_readSum 69 = .ok (.return_, 1) := by decide +kernel
theorem dX4_readTerm_0 : decode cX4_readTerm 0 = .ok (.aload_n 0, 1) := by decide +kernel
theorem dX4_readTerm_1 : decode cX4_readTerm 1 = .ok (.iload_n 1, 1) := by decide +kernel
theorem dX4_readTerm_2 : decode cX4_readTerm 2 = .ok (.invokevirtual 80, 3) := by decide +kernel
theorem dX4_readTerm_5 : decode cX4_readTerm 5 = .ok (.iconst 0, 1) := by decide +kernel
theorem dX4_readTerm_6 : decode cX4_readTerm 6 = .ok (.istore_n 2, 1) := by decide +kernel
theorem dX4_readTerm_7 : decode cX4_readTerm 7 = .ok (.iload_n 2, 1) := by decide +kernel
theorem dX4_readTerm_8 : decode cX4_readTerm 8 = .ok (.sipush 160, 3) := by decide +kernel
theorem dX4_readTerm_11 : decode cX4_readTerm 11 = .ok (.if_icmp .ge 33, 3) := by decide +kernel
theorem dX4_readTerm_14 : decode cX4_readTerm 14 = .ok (.aload_n 0, 1) := by decide +kernel
theorem dX4_readTerm_15 : decode cX4_readTerm 15 = .ok (.bipush 42, 2) := by decide +kernel
theorem dX4_readTerm_17 : decode cX4_readTerm 17 = .ok (.invokevirtual 58, 3) := by decide +kernel
theorem dX4_readTerm_20 : decode cX4_readTerm 20 = .ok (.ifCond .eq 24, 3) := by decide +kernel
theorem dX4_readTerm_23 : decode cX4_readTerm 23 = .ok (.aload_n 0, 1) := by decide +kernel
theorem dX4_readTerm_24 : decode cX4_readTerm 24 = .ok (.invokevirtual 34, 3) := by decide +kernel
theorem dX4_readTerm_27 : decode cX4_readTerm 27 = .ok (.aload_n 0, 1) := by decide +kernel
theorem dX4_readTerm_28 : decode cX4_readTerm 28 = .ok (.iload_n 1, 1) := by decide +kernel
theorem dX4_readTerm_29 : decode cX4_readTerm 29 = .ok (.invokevirtual 80, 3) := by decide +kernel
theorem dX4_readTerm_32 : decode cX4_readTerm 32 = .ok (.aload_n 0, 1) := by decide +kernel
theorem dX4_readTerm_33 : decode cX4_readTerm 33 = .ok (.bipush (-27), 2) := by decide +kernel
theorem dX4_readTerm_35 : decode cX4_readTerm 35 = .ok (.invokevirtual 62, 3) := by decide +kernel
theorem dX4_readTerm_38 : decode cX4_readTerm 38 = .ok (.iinc 2 1, 3) := by decide +kernel
theorem dX4_readTerm_41 : decode cX4_readTerm 41 = .ok (.goto (-34), 3) := by decide +kernel
theorem dX4_readTerm_44 : decode cX4_readTerm 44 = .ok (.return_, 1) := by decide +kernel
theorem dX4_readOne_0 : decode cX4_readOne 0 = .ok (.aload_n 0, 1) := by decide +kernel
theorem dX4_readOne_1 : decode cX4_readOne 1 = .ok (.iconst 2, 1) := by decide +kernel
theorem dX4_readOne_2 : decode cX4_readOne 2 = .ok (.invokevirtual 58, 3) := by decide +kernel
theorem dX4_readOne_5 : decode cX4_readOne 5 = .ok (.ifCond .eq 18, 3) := by decide +kernel
theorem dX4_readOne_8 : decode cX4_readOne 8 = .ok (.aload_n 0, 1) := by decide +kernel
theorem dX4_readOne_9 : decode cX4_readOne 9 = .ok (.aload_n 0, 1) := by decide +kernel
theorem dX4_readOne_10 : decode cX4_readOne 10 = .ok (.getfield 83, 3) := by decide +kernel
theorem dX4_readOne_13 : decode cX4_readOne 13 = .ok (.invokevirtual 62, 3) := by decide +kernel
theorem dX4_readOne_16 : decode cX4_readOne 16 = .ok (.aload_n 0, 1) := by decide +kernel
theorem dX4_readOne_17 : decode cX4_readOne 17 = .ok (.invokevirtual 34, 3) := by decide +kernel
theorem dX4_readOne_20 : decode cX4_readOne 20 = .ok (.goto 130, 3) := by decide +kernel
theorem dX4_readOne_23 : decode cX4_readOne 23 = .ok (.aload_n 0, 1) := by decide +kernel
theorem dX4_readOne_24 : decode cX4_readOne 24 = .ok (.getfield 25, 3) := by decide +kernel
theorem dX4_readOne_27 : decode cX4_readOne 27 = .ok (.iconst (-1), 1) := by decide +kernel
theorem dX4_readOne_28 : decode cX4_readOne 28 = .ok (.if_icmp .ne 44, 3) := by decide +kernel
theorem dX4_readOne_31 : decode cX4_readOne 31 = .ok (.aload_n 0, 1) := by decide +kernel
theorem dX4_readOne_32 : decode cX4_readOne 32 = .ok (.getfield 74, 3) := by decide +kernel
theorem dX4_readOne_35 : decode cX4_readOne 35 = .ok (.sipush 1006, 3) := by decide +kernel
theorem dX4_readOne_38 : decode cX4_readOne 38 = .ok (.if_icmp .lt 34, 3) := by decide +kernel
theorem dX4_readOne_41 : decode cX4_readOne 41 = .ok (.aload_n 0, 1) := by decide +kernel
theorem dX4_readOne_42 : decode cX4_readOne 42 = .ok (.getfield 74, 3) := by decide +kernel
theorem dX4_readOne_45 : decode cX4_readOne 45 = .ok (.sipush 1011, 3) := by decide +kernel
theorem dX4_readOne_48 : decode cX4_readOne 48 = .ok (.if_icmp .gt 24, 3) := by decide +kernel
theorem dX4_readOne_51 : decode cX4_readOne 51 = .ok (.aload_n 0, 1) := by decide +kernel
theorem dX4_readOne_52 : decode cX4_readOne 52 = .ok (.iconst (-1), 1) := by decide +kernel
theorem dX4_readOne_53 : decode cX4_readOne 53 = .ok (.aload_n 0, 1) := by decide +kernel
theorem dX4_readOne_54 : decode cX4_readOne 54 = .ok (.getfield 74, 3) := by decide +kernel
theorem dX4_readOne_57 : decode cX4_readOne 57 = .ok (.sipush 1006, 3) := by decide +kernel
theorem dX4_readOne_60 : decode cX4_readOne 60 = .ok (.isub, 1) := by decide +kernel
theorem dX4_readOne_61 : decode cX4_readOne 61 = .ok (.isub, 1) := by decide +kernel
theorem dX4_readOne_62 : decode cX4_readOne 62 = .ok (.invokevirtual 62, 3) := by decide +kernel
theorem dX4_readOne_65 : decode cX4_readOne 65 = .ok (.aload_n 0, 1) := by decide +kernel
theorem dX4_readOne_66 : decode cX4_readOne 66 = .ok (.invokevirtual 34, 3) := by decide +kernel
theorem dX4_readOne_69 : decode cX4_readOne 69 = .ok (.goto 81, 3) := by decide +kernel
theorem dX4_readOne_72 : decode cX4_readOne 72 = .ok (.aload_n 0, 1) := by decide +kernel
theorem dX4_readOne_73 : decode cX4_readOne 73 = .ok (.bipush 45, 2) := by decide +kernel
theorem dX4_readOne_75 : decode cX4_readOne 75 = .ok (.invokevirtual 58, 3) := by decide +kernel
theorem dX4_readOne_78 : decode cX4_readOne 78 = .ok (.ifCond .eq 31, 3) := by decide +kernel
theorem dX4_readOne_81 : decode cX4_readOne 81 = .ok (.aload_n 0, 1) := by decide +kernel
theorem dX4_readOne_82 : decode cX4_readOne 82 = .ok (.iload_n 1, 1) := by decide +kernel
theorem dX4_readOne_83 : decode cX4_readOne 83 = .ok (.invokevirtual 68, 3) := by decide +kernel
theorem dX4_readOne_86 : decode cX4_readOne 86 = .ok (.ifCond .eq 64, 3) := by decide +kernel
theorem dX4_readOne_89 : decode cX4_readOne 89 = .ok (.aload_n 0, 1) := by decide +kernel
theorem dX4_readOne_90 : decode cX4_readOne 90 = .ok (.invokevirtual 34, 3) := by decide +kernel
theorem dX4_readOne_93 : decode cX4_readOne 93 = .ok (.aload_n 0, 1) := by decide +kernel
theorem dX4_readOne_94 : decode cX4_readOne 94 = .ok (.iload_n 1, 1) := by decide +kernel
theorem dX4_readOne_95 : decode cX4_readOne 95 = .ok (.iconst 1, 1) := by decide +kernel
theorem dX4_readOne_96 : decode cX4_readOne 96 = .ok (.iadd, 1) := by decide +kernel
theorem dX4_readOne_97 : decode cX4_readOne 97 = .ok (.invokevirtual 80, 3) := by decide +kernel
theorem dX4_readOne_100 : decode cX4_readOne 100 = .ok (.aload_n 0, 1) := by decide +kernel
theorem dX4_readOne_101 : decode cX4_readOne 101 = .ok (.bipush (-12), 2) := by decide +kernel
theorem dX4_readOne_103 : decode cX4_readOne 103 = .ok (.invokevirtual 62, 3) := by decide +kernel
theorem dX4_readOne_106 : decode cX4_readOne 106 = .ok (.goto 44, 3) := by decide +kernel
theorem dX4_readOne_109 : decode cX4_readOne 109 = .ok (.aload_n 0, 1) := by decide +kernel
theorem dX4_readOne_110 : decode cX4_readOne 110 = .ok (.bipush 40, 2) := by decide +kernel
theorem dX4_readOne_112 : decode cX4_readOne 112 = .ok (.invokevirtual 58, 3) := by decide +kernel
theorem dX4_readOne_115 : decode cX4_readOne 115 = .ok (.ifCond .eq 31, 3) := by decide +kernel
theorem dX4_readOne_118 : decode cX4_readOne 118 = .ok (.aload_n 0, 1) := by decide +kernel
theorem dX4_readOne_119 : decode cX4_readOne 119 = .ok (.iload_n 1, 1) := by decide +kernel
theorem dX4_readOne_120 : decode cX4_readOne 120 = .ok (.invokevirtual 68, 3) := by decide +kernel
theorem dX4_readOne_123 : decode cX4_readOne 123 = .ok (.ifCond .eq 27, 3) := by decide +kernel
theorem dX4_readOne_126 : decode cX4_readOne 126 = .ok (.aload_n 0, 1) := by decide +kernel
theorem dX4_readOne_127 : decode cX4_readOne 127 = .ok (.invokevirtual 34, 3) := by decide +kernel
theorem dX4_readOne_130 : decode cX4_readOne 130 = .ok (.aload_n 0, 1) := by decide +kernel
theorem dX4_readOne_131 : decode cX4_readOne 131 = .ok (.iload_n 1, 1) := by decide +kernel
theorem dX4_readOne_132 : decode cX4_readOne 132 = .ok (.iconst 1, 1) := by decide +kernel
theorem dX4_readOne_133 : decode cX4_readOne 133 = .ok (.iadd, 1) := by decide +kernel
theorem dX4_readOne_134 : decode cX4_readOne 134 = .ok (.invokevirtual 41, 3) := by decide +kernel
theorem dX4_readOne_137 : decode cX4_readOne 137 = .ok (.aload_n 0, 1) := by decide +kernel
theorem dX4_readOne_138 : decode cX4_readOne 138 = .ok (.bipush 41, 2) := by decide +kernel
theorem dX4_readOne_140 : decode cX4_readOne 140 = .ok (.invokevirtual 37, 3) := by decide +kernel
theorem dX4_readOne_143 : decode cX4_readOne 143 = .ok (.goto 7, 3) := by decide +kernel
theorem dX4_readOne_146 : decode cX4_readOne 146 = .ok (.aload_n 0, 1) := by decide +kernel
theorem dX4_readOne_147 : decode cX4_readOne 147 = .ok (.invokevirtual 86, 3) := by decide +kernel
theorem dX4_readOne_150 : decode cX4_readOne 150 = .ok (.return_, 1) := by decide +kernel
theorem dX4_mayOpen_0 : decode cX4_mayOpen 0 = .ok (.iload_n 1, 1) := by decide +kernel
theorem dX4_mayOpen_1 : decode cX4_mayOpen 1 = .ok (.iconst 5, 1) := by decide +kernel
theorem dX4_mayOpen_2 : decode cX4_mayOpen 2 = .ok (.if_icmp .lt 7, 3) := by decide +kernel
theorem dX4_mayOpen_5 : decode cX4_mayOpen 5 = .ok (.aload_n 0, 1) := by decide +kernel
theorem dX4_mayOpen_6 : decode cX4_mayOpen 6 = .ok (.invokevirtual 86, 3) := by decide +kernel
theorem dX4_mayOpen_9 : decode cX4_mayOpen 9 = .ok (.iload_n 1, 1) := by decide +kernel
theorem dX4_mayOpen_10 : decode cX4_mayOpen 10 = .ok (.iconst 5, 1) := by decide +kernel
theorem dX4_mayOpen_11 : decode cX4_mayOpen 11 = .ok (.if_icmp .ge 7, 3) := by decide +kernel
theorem dX4_mayOpen_14 : decode cX4_mayOpen 14 = .ok (.iconst 1, 1) := by decide +kernel
theorem dX4_mayOpen_15 : decode cX4_mayOpen 15 = .ok (.goto 4, 3) := by decide +kernel
theorem dX4_mayOpen_18 : decode cX4_mayOpen 18 = .ok (.iconst 0, 1) := by decide +kernel
theorem dX4_mayOpen_19 : decode cX4_mayOpen 19 = .ok (.ireturn, 1) := by decide +kernel
theorem dX4_isNow_0 : decode cX4_isNow 0 = .ok (.aload_n 0, 1) := by decide +kernel
theorem dX4_isNow_1 : decode cX4_isNow 1 = .ok (.getfield 25, 3) := by decide +kernel
theorem dX4_isNow_4 : decode cX4_isNow 4 = .ok (.iconst (-1), 1) := by decide +kernel
theorem dX4_isNow_5 : decode cX4_isNow 5 = .ok (.if_icmp .ne 15, 3) := by decide +kernel
theorem dX4_isNow_8 : decode cX4_isNow 8 = .ok (.aload_n 0, 1) := by decide +kernel
theorem dX4_isNow_9 : decode cX4_isNow 9 = .ok (.getfield 74, 3) := by decide +kernel
theorem dX4_isNow_12 : decode cX4_isNow 12 = .ok (.iload_n 1, 1) := by decide +kernel
theorem dX4_isNow_13 : decode cX4_isNow 13 = .ok (.if_icmp .ne 7, 3) := by decide +kernel
theorem dX4_isNow_16 : decode cX4_isNow 16 = .ok (.iconst 1, 1) := by decide +kernel
theorem dX4_isNow_17 : decode cX4_isNow 17 = .ok (.goto 4, 3) := by decide +kernel
theorem dX4_isNow_20 : decode cX4_isNow 20 = .ok (.iconst 0, 1) := by decide +kernel
theorem dX4_isNow_21 : decode cX4_isNow 21 = .ok (.ireturn, 1) := by decide +kernel
theorem dX4_demand_0 : decode cX4_demand 0 = .ok (.aload_n 0, 1) := by decide +kernel
theorem dX4_demand_1 : decode cX4_demand 1 = .ok (.iload_n 1, 1) := by decide +kernel
theorem dX4_demand_2 : decode cX4_demand 2 = .ok (.invokevirtual 58, 3) := by decide +kernel
theorem dX4_demand_5 : decode cX4_demand 5 = .ok (.ifCond .eq 10, 3) := by decide +kernel
theorem dX4_demand_8 : decode cX4_demand 8 = .ok (.aload_n 0, 1) := by decide +kernel
theorem dX4_demand_9 : decode cX4_demand 9 = .ok (.invokevirtual 34, 3) := by decide +kernel
theorem dX4_demand_12 : decode cX4_demand 12 = .ok (.goto 7, 3) := by decide +kernel
theorem dX4_demand_15 : decode cX4_demand 15 = .ok (.aload_n 0, 1) := by decide +kernel
theorem dX4_demand_16 : decode cX4_demand 16 = .ok (.invokevirtual 86, 3) := by decide +kernel
theorem dX4_demand_19 : decode cX4_demand 19 = .ok (.return_, 1) := by decide +kernel
theorem dX4_failHere_0 : decode cX4_failHere 0 = .ok (.aload_n 0, 1) := by decide +kernel
theorem dX4_failHere_1 : decode cX4_failHere 1 = .ok (.getfield 25, 3) := by decide +kernel
theorem dX4_failHere_4 : decode cX4_failHere 4 = .ok (.iconst (-1), 1) := by decide +kernel
theorem dX4_failHere_5 : decode cX4_failHere 5 = .ok (.if_icmp .ne 11, 3) := by decide +kernel
theorem dX4_failHere_8 : decode cX4_failHere 8 = .ok (.aload_n 0, 1) := by decide +kernel
theorem dX4_failHere_9 : decode cX4_failHere 9 = .ok (.aload_n 0, 1) := by decide +kernel
theorem dX4_failHere_10 : decode cX4_failHere 10 = .ok (.getfield 89, 3) := by decide +kernel
theorem dX4_failHere_13 : decode cX4_failHere 13 = .ok (.putfield 25, 3) := by decide +kernel
theorem dX4_failHere_16 : decode cX4_failHere 16 = .ok (.return_, 1) := by decide +kernel
theorem dX4_emit_0 : decode cX4_emit 0 = .ok (.aload_n 0, 1) := by decide +kernel
theorem dX4_emit_1 : decode cX4_emit 1 = .ok (.getfield 25, 3) := by decide +kernel
theorem dX4_emit_4 : decode cX4_emit 4 = .ok (.iconst (-1), 1) := by decide +kernel
theorem dX4_emit_5 : decode cX4_emit 5 = .ok (.if_icmp .ne 35, 3) := by decide +kernel
theorem dX4_emit_8 : decode cX4_emit 8 = .ok (.aload_n 0, 1) := by decide +kernel
theorem dX4_emit_9 : decode cX4_emit 9 = .ok (.getfield 31, 3) := by decide +kernel
theorem dX4_emit_12 : decode cX4_emit 12 = .ok (.aload_n 0, 1) := by decide +kernel
theorem dX4_emit_13 : decode cX4_emit 13 = .ok (.getfield 15, 3) := by decide +kernel
theorem dX4_emit_16 : decode cX4_emit 16 = .ok (.arraylength, 1) := by decide +kernel
theorem dX4_emit_17 : decode cX4_emit 17 = .ok (.if_icmp .ge 23, 3) := by decide +kernel
theorem dX4_emit_20 : decode cX4_emit 20 = .ok (.aload_n 0, 1) := by decide +kernel
theorem dX4_emit_21 : decode cX4_emit 21 = .ok (.getfield 15, 3) := by decide +kernel
theorem dX4_emit_24 : decode cX4_emit 24 = .ok (.aload_n 0, 1) := by decide +kernel
theorem dX4_emit_25 : decode cX4_emit 25 = .ok (.getfield 31, 3) := by decide +kernel
theorem dX4_emit_28 : decode cX4_emit 28 = .ok (.iload_n 1, 1) := by decide +kernel
theorem dX4_emit_29 : decode cX4_emit 29 = .ok (.iastore, 1) := by decide +kernel
theorem dX4_emit_30 : decode cX4_emit 30 = .ok (.aload_n 0, 1) := by decide +kernel
theorem dX4_emit_31 : decode cX4_emit 31 = .ok (.dup, 1) := by decide +kernel
theorem dX4_emit_32 : decode cX4_emit 32 = .ok (.getfield 31, 3) := by decide +kernel
theorem dX4_emit_35 : decode cX4_emit 35 = .ok (.iconst 1, 1) := by decide +kernel
theorem dX4_emit_36 : decode cX4_emit 36 = .ok (.iadd, 1) := by decide +kernel
theorem dX4_emit_37 : decode cX4_emit 37 = .ok (.putfield 31, 3) := by decide +kernel
theorem dX4_emit_40 : decode cX4_emit 40 = .ok (.return_, 1) := by decide +kernel
theorem dX4_byteAt_0 : decode cX4_byteAt 0 = .ok (.iload_n 1, 1) := by decide +kernel
theorem dX4_byteAt_1 : decode cX4_byteAt 1 = .ok (.ifCond .lt 29, 3) := by decide +kernel
theorem dX4_byteAt_4 : decode cX4_byteAt 4 = .ok (.iload_n 1, 1) := by decide +kernel
theorem dX4_byteAt_5 : decode cX4_byteAt 5 = .ok (.aload_n 0, 1) := by decide +kernel
theorem dX4_byteAt_6 : decode cX4_byteAt 6 = .ok (.getfield 21, 3) := by decide +kernel
theorem dX4_byteAt_9 : decode cX4_byteAt 9 = .ok (.if_icmp .ge 21, 3) := by decide +kernel
theorem dX4_byteAt_12 : decode cX4_byteAt 12 = .ok (.iload_n 1, 1) := by decide +kernel
theorem dX4_byteAt_13 : decode cX4_byteAt 13 = .ok (.aload_n 0, 1) := by decide +kernel
theorem dX4_byteAt_14 : decode cX4_byteAt 14 = .ok (.getfield 11, 3) := by decide +kernel
theorem dX4_byteAt_17 : decode cX4_byteAt 17 = .ok (.arraylength, 1) := by decide +kernel
theorem dX4_byteAt_18 : decode cX4_byteAt 18 = .ok (.if_icmp .ge 12, 3) := by decide +kernel
theorem dX4_byteAt_21 : decode cX4_byteAt 21 = .ok (.aload_n 0, 1) := by decide +kernel
theorem dX4_byteAt_22 : decode cX4_byteAt 22 = .ok (.getfield 11, 3) := by decide +kernel
theorem dX4_byteAt_25 : decode cX4_byteAt 25 = .ok (.iload_n 1, 1) := by decide +kernel
theorem dX4_byteAt_26 : decode cX4_byteAt 26 = .ok (.iaload, 1) := by decide +kernel
theorem dX4_byteAt_27 : decode cX4_byteAt 27 = .ok (.goto 4, 3) := by decide +kernel
theorem dX4_byteAt_30 : decode cX4_byteAt 30 = .ok (.iconst (-1), 1) := by decide +kernel
theorem dX4_byteAt_31 : decode cX4_byteAt 31 = .ok (.ireturn, 1) := by decide +kernel
theorem dX4_stepOn_0 : decode cX4_stepOn 0 = .ok (.aload_n 0, 1) := by decide +kernel
theorem dX4_stepOn_1 : decode cX4_stepOn 1 = .ok (.getfield 28, 3) := by decide +kernel
theorem dX4_stepOn_4 : decode cX4_stepOn 4 = .ok (.istore_n 1, 1) := by decide +kernel
theorem dX4_stepOn_5 : decode cX4_stepOn 5 = .ok (.iload_n 1, 1) := by decide +kernel
theorem dX4_stepOn_6 : decode cX4_stepOn 6 = .ok (.aload_n 0, 1) := by decide +kernel
theorem dX4_stepOn_7 : decode cX4_stepOn 7 = .ok (.getfield 21, 3) := by decide +kernel
theorem dX4_stepOn_10 : decode cX4_stepOn 10 = .ok (.if_icmp .ge 36, 3) := by decide +kernel
theorem dX4_stepOn_13 : decode cX4_stepOn 13 = .ok (.aload_n 0, 1) := by decide +kernel
theorem dX4_stepOn_14 : decode cX4_stepOn 14 = .ok (.iload_n 1, 1) := by decide +kernel
theorem dX4_stepOn_15 : decode cX4_stepOn 15 = .ok (.invokevirtual 92, 3) := by decide +kernel
theorem dX4_stepOn_18 : decode cX4_stepOn 18 = .ok (.bipush 32, 2) := by decide +kernel
theorem dX4_stepOn_20 : decode cX4_stepOn 20 = .ok (.if_icmp .eq 13, 3) := by decide +kernel
theorem dX4_stepOn_23 : decode cX4_stepOn 23 = .ok (.aload_n 0, 1) := by decide +kernel
theorem dX4_stepOn_24 : decode cX4_stepOn 24 = .ok (.iload_n 1, 1) := by decide +kernel
theorem dX4_stepOn_25 : decode cX4_stepOn 25 = .ok (.invokevirtual 92, 3) := by decide +kernel
theorem dX4_stepOn_28 : decode cX4_stepOn 28 = .ok (.bipush 10, 2) := by decide +kernel
theorem dX4_stepOn_30 : decode cX4_stepOn 30 = .ok (.if_icmp .ne 16, 3) := by decide +kernel
theorem dX4_stepOn_33 : decode cX4_stepOn 33 = .ok (.aload_n 0, 1) := by decide +kernel
theorem dX4_stepOn_34 : decode cX4_stepOn 34 = .ok (.iload_n 1, 1) := by decide +kernel
theorem dX4_stepOn_35 : decode cX4_stepOn 35 = .ok (.iconst 1, 1) := by decide +kernel
theorem dX4_stepOn_36 : decode cX4_stepOn 36 = .ok (.iadd, 1) := by decide +kernel
theorem dX4_stepOn_37 : decode cX4_stepOn 37 = .ok (.putfield 28, 3) := by decide +kernel
theorem dX4_stepOn_40 : decode cX4_stepOn 40 = .ok (.iinc 1 1, 3) := by decide +kernel
theorem dX4_stepOn_43 : decode cX4_stepOn 43 = .ok (.goto (-38), 3) := by decide +kernel
theorem dX4_stepOn_46 : decode cX4_stepOn 46 = .ok (.aload_n 0, 1) := by decide +kernel
theorem dX4_stepOn_47 : decode cX4_stepOn 47 = .ok (.aload_n 0, 1) := by decide +kernel
theorem dX4_stepOn_48 : decode cX4_stepOn 48 = .ok (.getfield 28, 3) := by decide +kernel
theorem dX4_stepOn_51 : decode cX4_stepOn 51 = .ok (.putfield 89, 3) := by decide +kernel
theorem dX4_stepOn_54 : decode cX4_stepOn 54 = .ok (.aload_n 0, 1) := by decide +kernel
theorem dX4_stepOn_55 : decode cX4_stepOn 55 = .ok (.aload_n 0, 1) := by decide +kernel
theorem dX4_stepOn_56 : decode cX4_stepOn 56 = .ok (.getfield 28, 3) := by decide +kernel
theorem dX4_stepOn_59 : decode cX4_stepOn 59 = .ok (.invokevirtual 92, 3) := by decide +kernel
theorem dX4_stepOn_62 : decode cX4_stepOn 62 = .ok (.istore_n 1, 1) := by decide +kernel
theorem dX4_stepOn_63 : decode cX4_stepOn 63 = .ok (.iload_n 1, 1) := by decide +kernel
theorem dX4_stepOn_64 : decode cX4_stepOn 64 = .ok (.iconst (-1), 1) := by decide +kernel
theorem dX4_stepOn_65 : decode cX4_stepOn 65 = .ok (.if_icmp .ne 11, 3) := by decide +kernel
theorem dX4_stepOn_68 : decode cX4_stepOn 68 = .ok (.aload_n 0, 1) := by decide +kernel
theorem dX4_stepOn_69 : decode cX4_stepOn 69 = .ok (.iconst 0, 1) := by decide +kernel
theorem dX4_stepOn_70 : decode cX4_stepOn 70 = .ok (.putfield 74, 3) := by decide +kernel
theorem dX4_stepOn_73 : decode cX4_stepOn 73 = .ok (.goto 60, 3) := by decide +kernel
theorem dX4_stepOn_76 : decode cX4_stepOn 76 = .ok (.iload_n 1, 1) := by decide +kernel
theorem dX4_stepOn_77 : decode cX4_stepOn 77 = .ok (.invokestatic 96, 3) := by decide +kernel
theorem dX4_stepOn_80 : decode cX4_stepOn 80 = .ok (.ifCond .eq 10, 3) := by decide +kernel
theorem dX4_stepOn_83 : decode cX4_stepOn 83 = .ok (.aload_n 0, 1) := by decide +kernel
theorem dX4_stepOn_84 : decode cX4_stepOn 84 = .ok (.invokevirtual 99, 3) := by decide +kernel
theorem dX4_stepOn_87 : decode cX4_stepOn 87 = .ok (.goto 46, 3) := by decide +kernel
theorem dX4_stepOn_90 : decode cX4_stepOn 90 = .ok (.iload_n 1, 1) := by decide +kernel
theorem dX4_stepOn_91 : decode cX4_stepOn 91 = .ok (.invokestatic 102, 3) := by decide +kernel
theorem dX4_stepOn_94 : decode cX4_stepOn 94 = .ok (.ifCond .eq 10, 3) := by decide +kernel
theorem dX4_stepOn_97 : decode cX4_stepOn 97 = .ok (.aload_n 0, 1) := by decide +kernel
theorem dX4_stepOn_98 : decode cX4_stepOn 98 = .ok (.invokevirtual 105, 3) := by decide +kernel
theorem dX4_stepOn_101 : decode cX4_stepOn 101 = .ok (.goto 32, 3) := by decide +kernel
theorem dX4_stepOn_104 : decode cX4_stepOn 104 = .ok (.aload_n 0, 1) := by decide +kernel
theorem dX4_stepOn_105 : decode cX4_stepOn 105 = .ok (.dup, 1) := by decide +kernel
theorem dX4_stepOn_106 : decode cX4_stepOn 106 = .ok (.getfield 28, 3) := by decide +kernel
theorem dX4_stepOn_109 : decode cX4_stepOn 109 = .ok (.iconst 1, 1) := by decide +kernel
theorem dX4_stepOn_110 : decode cX4_stepOn 110 = .ok (.iadd, 1) := by decide +kernel
theorem dX4_stepOn_111 : decode cX4_stepOn 111 = .ok (.putfield 28, 3) := by decide +kernel
theorem dX4_stepOn_114 : decode cX4_stepOn 114 = .ok (.aload_n 0, 1) := by decide +kernel
theorem dX4_stepOn_115 : decode cX4_stepOn 115 = .ok (.ldc 108, 2) := by decide +kernel
theorem dX4_stepOn_117 : decode cX4_stepOn 117 = .ok (.iload_n 1, 1) := by decide +kernel
theorem dX4_stepOn_118 : decode cX4_stepOn 118 = .ok (.i2c, 1) := by decide +kernel
theorem dX4_stepOn_119 : decode cX4_stepOn 119 = .ok (.invokevirtual 110, 3) := by decide +kernel
theorem dX4_stepOn_122 : decode cX4_stepOn 122 = .ok (.ifCond .lt 7, 3) := by decide +kernel
theorem dX4_stepOn_125 : decode cX4_stepOn 125 = .ok (.iload_n 1, 1) := by decide +kernel
theorem dX4_stepOn_126 : decode cX4_stepOn 126 = .ok (.goto 4, 3) := by decide +kernel
theorem dX4_stepOn_129 : decode cX4_stepOn 129 = .ok (.iconst 1, 1) := by decide +kernel
theorem dX4_stepOn_130 : decode cX4_stepOn 130 = .ok (.putfield 74, 3) := by decide +kernel
theorem dX4_stepOn_133 : decode cX4_stepOn 133 = .ok (.return_, 1) := by decide +kernel
theorem dX4_stepOverWord_0 : decode cX4_stepOverWord 0 = .ok (.aload_n 0, 1) := by decide +kernel
theorem dX4_stepOverWord_1 : decode cX4_stepOverWord 1 = .ok (.getfield 28, 3) := by decide +kernel
theorem dX4_stepOverWord_4 : decode cX4_stepOverWord 4 = .ok (.istore_n 1, 1) := by decide +kernel
theorem dX4_stepOverWord_5 : decode cX4_stepOverWord 5 = .ok (.iload_n 1, 1) := by decide +kernel
theorem dX4_stepOverWord_6 : decode cX4_stepOverWord 6 = .ok (.aload_n 0, 1) := by decide +kernel
theorem dX4_stepOverWord_7 : decode cX4_stepOverWord 7 = .ok (.getfield 21, 3) := by decide +kernel
theorem dX4_stepOverWord_10 : decode cX4_stepOverWord 10 = .ok (.if_icmp .ge 27, 3) := by decide +kernel
theorem dX4_stepOverWord_13 : decode cX4_stepOverWord 13 = .ok (.aload_n 0, 1) := by decide +kernel
theorem dX4_stepOverWord_14 : decode cX4_stepOverWord 14 = .ok (.iload_n 1, 1) := by decide +kernel
theorem dX4_stepOverWord_15 : decode cX4_stepOverWord 15 = .ok (.invokevirtual 92, 3) := by decide +kernel
theorem dX4_stepOverWord_18 : decode cX4_stepOverWord 18 = .ok (.invokestatic 96, 3) := by decide +kernel
theorem dX4_stepOverWord_21 : decode cX4_stepOverWord 21 = .ok (.ifCond .eq 16, 3) := by decide +kernel
theorem dX4_stepOverWord_24 : decode cX4_stepOverWord 24 = .ok (.aload_n 0, 1) := by decide +kernel
theorem dX4_stepOverWord_25 : decode cX4_stepOverWord 25 = .ok (.iload_n 1, 1) := by decide +kernel
theorem dX4_stepOverWord_26 : decode cX4_stepOverWord 26 = .ok (.iconst 1, 1) := by decide +kernel
theorem dX4_stepOverWord_27 : decode cX4_stepOverWord 27 = .ok (.iadd, 1) := by decide +kernel
theorem dX4_stepOverWord_28 : decode cX4_stepOverWord 28 = .ok (.putfield 28, 3) := by decide +kernel
theorem dX4_stepOverWord_31 : decode cX4_stepOverWord 31 = .ok (.iinc 1 1, 3) := by decide +kernel
theorem dX4_stepOverWord_34 : decode cX4_stepOverWord 34 = .ok (.goto (-29), 3) := by decide +kernel
theorem dX4_stepOverWord_37 : decode cX4_stepOverWord 37 = .ok (.aload_n 0, 1) := by decide +kernel
theorem dX4_stepOverWord_38 : decode cX4_stepOverWord 38 = .ok (.iconst 1, 1) := by decide +kernel
theorem dX4_stepOverWord_39 : decode cX4_stepOverWord 39 = .ok (.putfield 74, 3) := by decide +kernel
theorem dX4_stepOverWord_42 : decode cX4_stepOverWord 42 = .ok (.iconst 0, 1) := by decide +kernel
theorem dX4_stepOverWord_43 : decode cX4_stepOverWord 43 = .ok (.istore_n 1, 1) := by decide +kernel
theorem dX4_stepOverWord_44 : decode cX4_stepOverWord 44 = .ok (.iload_n 1, 1) := by decide +kernel
theorem dX4_stepOverWord_45 : decode cX4_stepOverWord 45 = .ok (.ldc 115, 2) := by decide +kernel
theorem dX4_stepOverWord_47 : decode cX4_stepOverWord 47 = .ok (.invokevirtual 117, 3) := by decide +kernel
theorem dX4_stepOverWord_50 : decode cX4_stepOverWord 50 = .ok (.if_icmp .ge 29, 3) := by decide +kernel
theorem dX4_stepOverWord_53 : decode cX4_stepOverWord 53 = .ok (.aload_n 0, 1) := by decide +kernel
theorem dX4_stepOverWord_54 : decode cX4_stepOverWord 54 = .ok (.iload_n 1, 1) := by decide +kernel
theorem dX4_stepOverWord_55 : decode cX4_stepOverWord 55 = .ok (.invokevirtual 121, 3) := by decide +kernel
theorem dX4_stepOverWord_58 : decode cX4_stepOverWord 58 = .ok (.ifCond .eq 15, 3) := by decide +kernel
theorem dX4_stepOverWord_61 : decode cX4_stepOverWord 61 = .ok (.aload_n 0, 1) := by decide +kernel
theorem dX4_stepOverWord_62 : decode cX4_stepOverWord 62 = .ok (.sipush 1000, 3) := by decide +kernel
theorem dX4_stepOverWord_65 : decode cX4_stepOverWord 65 = .ok (.iload_n 1, 1) := by decide +kernel
theorem dX4_stepOverWord_66 : decode cX4_stepOverWord 66 = .ok (.bipush 7, 2) := by decide +kernel
theorem dX4_stepOverWord_68 : decode cX4_stepOverWord 68 = .ok (.idiv, 1) := by decide +kernel
theorem dX4_stepOverWord_69 : decode cX4_stepOverWord 69 = .ok (.iadd, 1) := by decide +kernel
theorem dX4_stepOverWord_70 : decode cX4_stepOverWord 70 = .ok (.putfield 74, 3) := by decide +kernel
theorem dX4_stepOverWord_73 : decode cX4_stepOverWord 73 = .ok (.iinc 1 7, 3) := by decide +kernel
theorem dX4_stepOverWord_76 : decode cX4_stepOverWord 76 = .ok (.goto (-32), 3) := by decide +kernel
theorem dX4_stepOverWord_79 : decode cX4_stepOverWord 79 = .ok (.return_, 1) := by decide +kernel
theorem dX4_isWordAt_0 : decode cX4_isWordAt 0 = .ok (.aload_n 0, 1) := by decide +kernel
theorem dX4_isWordAt_1 : decode cX4_isWordAt 1 = .ok (.getfield 28, 3) := by decide +kernel
theorem dX4_isWordAt_4 : decode cX4_isWordAt 4 = .ok (.aload_n 0, 1) := by decide +kernel
theorem dX4_isWordAt_5 : decode cX4_isWordAt 5 = .ok (.getfield 89, 3) := by decide +kernel
theorem dX4_isWordAt_8 : decode cX4_isWordAt 8 = .ok (.isub, 1) := by decide +kernel
theorem dX4_isWordAt_9 : decode cX4_isWordAt 9 = .ok (.istore_n 2, 1) := by decide +kernel
theorem dX4_isWordAt_10 : decode cX4_isWordAt 10 = .ok (.iload_n 1, 1) := by decide +kernel
theorem dX4_isWordAt_11 : decode cX4_isWordAt 11 = .ok (.ifCond .lt 21, 3) := by decide +kernel
theorem dX4_isWordAt_14 : decode cX4_isWordAt 14 = .ok (.iload_n 2, 1) := by decide +kernel
theorem dX4_isWordAt_15 : decode cX4_isWordAt 15 = .ok (.bipush 7, 2) := by decide +kernel
theorem dX4_isWordAt_17 : decode cX4_isWordAt 17 = .ok (.if_icmp .ge 15, 3) := by decide +kernel
theorem dX4_isWordAt_20 : decode cX4_isWordAt 20 = .ok (.iload_n 1, 1) := by decide +kernel
theorem dX4_isWordAt_21 : decode cX4_isWordAt 21 = .ok (.ldc 115, 2) := by decide +kernel
theorem dX4_isWordAt_23 : decode cX4_isWordAt 23 = .ok (.invokevirtual 117, 3) := by decide +kernel
theorem dX4_isWordAt_26 : decode cX4_isWordAt 26 = .ok (.bipush 7, 2) := by decide +kernel
theorem dX4_isWordAt_28 : decode cX4_isWordAt 28 = .ok (.isub, 1) := by decide +kernel
theorem dX4_isWordAt_29 : decode cX4_isWordAt 29 = .ok (.if_icmp .le 5, 3) := by decide +kernel
theorem dX4_isWordAt_32 : decode cX4_isWordAt 32 = .ok (.iconst 0, 1) := by decide +kernel
theorem dX4_isWordAt_33 : decode cX4_isWordAt 33 = .ok (.ireturn, 1) := by decide +kernel
theorem dX4_isWordAt_34 : decode cX4_isWordAt 34 = .ok (.iconst 0, 1) := by decide +kernel
theorem dX4_isWordAt_35 : decode cX4_isWordAt 35 = .ok (.istore_n 3, 1) := by decide +kernel
theorem dX4_isWordAt_36 : decode cX4_isWordAt 36 = .ok (.iload_n 3, 1) := by decide +kernel
theorem dX4_isWordAt_37 : decode cX4_isWordAt 37 = .ok (.iload_n 2, 1) := by decide +kernel
theorem dX4_isWordAt_38 : decode cX4_isWordAt 38 = .ok (.if_icmp .ge 32, 3) := by decide +kernel
theorem dX4_isWordAt_41 : decode cX4_isWordAt 41 = .ok (.ldc 115, 2) := by decide +kernel
theorem dX4_isWordAt_43 : decode cX4_isWordAt 43 = .ok (.iload_n 1, 1) := by decide +kernel
theorem dX4_isWordAt_44 : decode cX4_isWordAt 44 = .ok (.iload_n 3, 1) := by decide +kernel
theorem dX4_isWordAt_45 : decode cX4_isWordAt 45 = .ok (.iadd, 1) := by decide +kernel
theorem dX4_isWordAt_46 : decode cX4_isWordAt 46 = .ok (.invokevirtual 124, 3) := by decide +kernel
theorem dX4_isWordAt_49 : decode cX4_isWordAt 49 = .ok (.aload_n 0, 1) := by decide +kernel
theorem dX4_isWordAt_50 : decode cX4_isWordAt 50 = .ok (.aload_n 0, 1) := by decide +kernel
theorem dX4_isWordAt_51 : decode cX4_isWordAt 51 = .ok (.getfield 89, 3) := by decide +kernel
theorem dX4_isWordAt_54 : decode cX4_isWordAt 54 = .ok (.iload_n 3, 1) := by decide +kernel
theorem dX4_isWordAt_55 : decode cX4_isWordAt 55 = .ok (.iadd, 1) := by decide +kernel
theorem dX4_isWordAt_56 : decode cX4_isWordAt 56 = .ok (.invokevirtual 92, 3) := by decide +kernel
theorem dX4_isWordAt_59 : decode cX4_isWordAt 59 = .ok (.if_icmp .eq 5, 3) := by decide +kernel
theorem dX4_isWordAt_62 : decode cX4_isWordAt 62 = .ok (.iconst 0, 1) := by decide +kernel
theorem dX4_isWordAt_63 : decode cX4_isWordAt 63 = .ok (.ireturn, 1) := by decide +kernel
theorem dX4_isWordAt_64 : decode cX4_isWordAt 64 = .ok (.iinc 3 1, 3) := by decide +kernel
theorem dX4_isWordAt_67 : decode cX4_isWordAt 67 = .ok (.goto (-31), 3) := by decide +kernel
theorem dX4_isWordAt_70 : decode cX4_isWordAt 70 = .ok (.ldc 115, 2) := by decide +kernel
theorem dX4_isWordAt_72 : decode cX4_isWordAt 72 = .ok (.iload_n 1, 1) := by decide +kernel
theorem dX4_isWordAt_73 : decode cX4_isWordAt 73 = .ok (.iload_n 2, 1) := by decide +kernel
theorem dX4_isWordAt_74 : decode cX4_isWordAt 74 = .ok (.iadd, 1) := by decide +kernel
theorem dX4_isWordAt_75 : decode cX4_isWordAt 75 = .ok (.invokevirtual 124, 3) := by decide +kernel
theorem dX4_isWordAt_78 : decode cX4_isWordAt 78 = .ok (.bipush 32, 2) := by decide +kernel
theorem dX4_isWordAt_80 : decode cX4_isWordAt 80 = .ok (.if_icmp .ne 7, 3) := by decide +kernel
theorem dX4_isWordAt_83 : decode cX4_isWordAt 83 = .ok (.iconst 1, 1) := by decide +kernel
theorem dX4_isWordAt_84 : decode cX4_isWordAt 84 = .ok (.goto 4, 3) := by decide +kernel
theorem dX4_isWordAt_87 : decode cX4_isWordAt 87 = .ok (.iconst 0, 1) := by decide +kernel
theorem dX4_isWordAt_88 : decode cX4_isWordAt 88 = .ok (.ireturn, 1) := by decide +kernel
theorem dX4_stepOverNumber_0 : decode cX4_stepOverNumber 0 = .ok (.aload_n 0, 1) := by decide +kernel
theorem dX4_stepOverNumber_1 : decode cX4_stepOverNumber 1 = .ok (.iconst 0, 1) := by decide +kernel
theorem dX4_stepOverNumber_2 : decode cX4_stepOverNumber 2 = .ok (.putfield 83, 3) := by decide +kernel
theorem dX4_stepOverNumber_5 : decode cX4_stepOverNumber 5 = .ok (.aload_n 0, 1) := by decide +kernel
theorem dX4_stepOverNumber_6 : decode cX4_stepOverNumber 6 = .ok (.getfield 28, 3) := by decide +kernel
theorem dX4_stepOverNumber_9 : decode cX4_stepOverNumber 9 = .ok (.istore_n 1, 1) := by decide +kernel
theorem dX4_stepOverNumber_10 : decode cX4_stepOverNumber 10 = .ok (.iload_n 1, 1) := by decide +kernel
theorem dX4_stepOverNumber_11 : decode cX4_stepOverNumber 11 = .ok (.aload_n 0, 1) := by decide +kernel
theorem dX4_stepOverNumber_12 : decode cX4_stepOverNumber 12 = .ok (.getfield 21, 3) := by decide +kernel
theorem dX4_stepOverNumber_15 : decode cX4_stepOverNumber 15 = .ok (.if_icmp .ge 47, 3) := by decide +kernel
theorem dX4_stepOverNumber_18 : decode cX4_stepOverNumber 18 = .ok (.aload_n 0, 1) := by decide +kernel
theorem dX4_stepOverNumber_19 : decode cX4_stepOverNumber 19 = .ok (.iload_n 1, 1) := by decide +kernel
theorem dX4_stepOverNumber_20 : decode cX4_stepOverNumber 20 = .ok (.invokevirtual 92, 3) := by decide +kernel
theorem dX4_stepOverNumber_23 : decode cX4_stepOverNumber 23 = .ok (.invokestatic 102, 3) := by decide +kernel
theorem dX4_stepOverNumber_26 : decode cX4_stepOverNumber 26 = .ok (.ifCond .eq 36, 3) := by decide +kernel
theorem dX4_stepOverNumber_29 : decode cX4_stepOverNumber 29 = .ok (.aload_n 0, 1) := by decide +kernel
theorem dX4_stepOverNumber_30 : decode cX4_stepOverNumber 30 = .ok (.bipush 10, 2) := by decide +kernel
theorem dX4_stepOverNumber_32 : decode cX4_stepOverNumber 32 = .ok (.aload_n 0, 1) := by decide +kernel
theorem dX4_stepOverNumber_33 : decode cX4_stepOverNumber 33 = .ok (.getfield 83, 3) := by decide +kernel
theorem dX4_stepOverNumber_36 : decode cX4_stepOverNumber 36 = .ok (.imul, 1) := by decide +kernel
theorem dX4_stepOverNumber_37 : decode cX4_stepOverNumber 37 = .ok (.aload_n 0, 1) := by decide +kernel
theorem dX4_stepOverNumber_38 : decode cX4_stepOverNumber 38 = .ok (.iload_n 1, 1) := by decide +kernel
theorem dX4_stepOverNumber_39 : decode cX4_stepOverNumber 39 = .ok (.invokevirtual 92, 3) := by decide +kernel
theorem dX4_stepOverNumber_42 : decode cX4_stepOverNumber 42 = .ok (.bipush 48, 2) := by decide +kernel
theorem dX4_stepOverNumber_44 : decode cX4_stepOverNumber 44 = .ok (.isub, 1) := by decide +kernel
theorem dX4_stepOverNumber_45 : decode cX4_stepOverNumber 45 = .ok (.iadd, 1) := by decide +kernel
theorem dX4_stepOverNumber_46 : decode cX4_stepOverNumber 46 = .ok (.putfield 83, 3) := by decide +kernel
theorem dX4_stepOverNumber_49 : decode cX4_stepOverNumber 49 = .ok (.aload_n 0, 1) := by decide +kernel
theorem dX4_stepOverNumber_50 : decode cX4_stepOverNumber 50 = .ok (.iload_n 1, 1) := by decide +kernel
theorem dX4_stepOverNumber_51 : decode cX4_stepOverNumber 51 = .ok (.iconst 1, 1) := by decide +kernel
theorem dX4_stepOverNumber_52 : decode cX4_stepOverNumber 52 = .ok (.iadd, 1) := by decide +kernel
theorem dX4_stepOverNumber_53 : decode cX4_stepOverNumber 53 = .ok (.putfield 28, 3) := by decide +kernel
theorem dX4_stepOverNumber_56 : decode cX4_stepOverNumber 56 = .ok (.iinc 1 1, 3) := by decide +kernel
theorem dX4_stepOverNumber_59 : decode cX4_stepOverNumber 59 = .ok (.goto (-49), 3) := by decide +kernel
theorem dX4_stepOverNumber_62 : decode cX4_stepOverNumber 62 = .ok (.aload_n 0, 1) := by decide +kernel
theorem dX4_stepOverNumber_63 : decode cX4_stepOverNumber 63 = .ok (.aload_n 0, 1) := by decide +kernel
theorem dX4_stepOverNumber_64 : decode cX4_stepOverNumber 64 = .ok (.getfield 28, 3) := by decide +kernel
theorem dX4_stepOverNumber_67 : decode cX4_stepOverNumber 67 = .ok (.aload_n 0, 1) := by decide +kernel
theorem dX4_stepOverNumber_68 : decode cX4_stepOverNumber 68 = .ok (.getfield 89, 3) := by decide +kernel
theorem dX4_stepOverNumber_71 : decode cX4_stepOverNumber 71 = .ok (.isub, 1) := by decide +kernel
theorem dX4_stepOverNumber_72 : decode cX4_stepOverNumber 72 = .ok (.iconst 4, 1) := by decide +kernel
theorem dX4_stepOverNumber_73 : decode cX4_stepOverNumber 73 = .ok (.if_icmp .le 7, 3) := by decide +kernel
theorem dX4_stepOverNumber_76 : decode cX4_stepOverNumber 76 = .ok (.iconst 1, 1) := by decide +kernel
theorem dX4_stepOverNumber_77 : decode cX4_stepOverNumber 77 = .ok (.goto 4, 3) := by decide +kernel
theorem dX4_stepOverNumber_80 : decode cX4_stepOverNumber 80 = .ok (.iconst 2, 1) := by decide +kernel
theorem dX4_stepOverNumber_81 : decode cX4_stepOverNumber 81 = .ok (.putfield 74, 3) := by decide +kernel
theorem dX4_stepOverNumber_84 : decode cX4_stepOverNumber 84 = .ok (.return_, 1) := by decide +kernel
theorem dX4_isLetter_0 : decode cX4_isLetter 0 = .ok (.iload_n 0, 1) := by decide +kernel
theorem dX4_isLetter_1 : decode cX4_isLetter 1 = .ok (.bipush 97, 2) := by decide +kernel
theorem dX4_isLetter_3 : decode cX4_isLetter 3 = .ok (.if_icmp .lt 13, 3) := by decide +kernel
theorem dX4_isLetter_6 : decode cX4_isLetter 6 = .ok (.iload_n 0, 1) := by decide +kernel
theorem dX4_isLetter_7 : decode cX4_isLetter 7 = .ok (.bipush 122, 2) := by decide +kernel
theorem dX4_isLetter_9 : decode cX4_isLetter 9 = .ok (.if_icmp .gt 7, 3) := by decide +kernel
theorem dX4_isLetter_12 : decode cX4_isLetter 12 = .ok (.iconst 1, 1) := by decide +kernel
theorem dX4_isLetter_13 : decode cX4_isLetter 13 = .ok (.goto 4, 3) := by decide +kernel
theorem dX4_isLetter_16 : decode cX4_isLetter 16 = .ok (.iconst 0, 1) := by decide +kernel
theorem dX4_isLetter_17 : decode cX4_isLetter 17 = .ok (.ireturn, 1) := by decide +kernel
theorem dX4_isDigit_0 : decode cX4_isDigit 0 = .ok (.iload_n 0, 1) := by decide +kernel
theorem dX4_isDigit_1 : decode cX4_isDigit 1 = .ok (.bipush 48, 2) := by decide +kernel
theorem dX4_isDigit_3 : decode cX4_isDigit 3 = .ok (.if_icmp .lt 13, 3) := by decide +kernel
theorem dX4_isDigit_6 : decode cX4_isDigit 6 = .ok (.iload_n 0, 1) := by decide +kernel
theorem dX4_isDigit_7 : decode cX4_isDigit 7 = .ok (.bipush 57, 2) := by decide +kernel
theorem dX4_isDigit_9 : decode cX4_isDigit 9 = .ok (.if_icmp .gt 7, 3) := by decide +kernel
theorem dX4_isDigit_12 : decode cX4_isDigit 12 = .ok (.iconst 1, 1) := by decide +kernel
theorem dX4_isDigit_13 : decode cX4_isDigit 13 = .ok (.goto 4, 3) := by decide +kernel
theorem dX4_isDigit_16 : decode cX4_isDigit 16 = .ok (.iconst 0, 1) := by decide +kernel
theorem dX4_isDigit_17 : decode cX4_isDigit 17 = .ok (.ireturn, 1) := by decide +kernel
theorem dX5_init_0 : decode cX5_init 0 = .ok (.aload_n 0, 1) := by decide +kernel
theorem dX5_init_1 : decode cX5_init 1 = .ok (.invokespecial 1, 3) := by decide +kernel
theorem dX5_init_4 : decode cX5_init 4 = .ok (.aload_n 0, 1) := by decide +kernel
theorem dX5_init_5 : decode cX5_init 5 = .ok (.bipush 40, 2) := by decide +kernel
theorem dX5_init_7 : decode cX5_init 7 = .ok (.newarray .int, 2) := by decide +kernel
theorem dX5_init_9 : decode cX5_init 9 = .ok (.putfield 9, 3) := by decide +kernel
theorem dX5_init_12 : decode cX5_init 12 = .ok (.aload_n 0, 1) := by decide +kernel
theorem dX5_init_13 : decode cX5_init 13 = .ok (.iconst (-1), 1) := by decide +kernel
theorem dX5_init_14 : decode cX5_init 14 = .ok (.putfield 13, 3) := by decide +kernel
theorem dX5_init_17 : decode cX5_init 17 = .ok (.return_, 1) := by decide +kernel
theorem dX5_become_0 : decode cX5_become 0 = .ok (.aload_n 0, 1) := by decide +kernel
theorem dX5_become_1 : decode cX5_become 1 = .ok (.iload_n 1, 1) := by decide +kernel
theorem dX5_become_2 : decode cX5_become 2 = .ok (.putfield 13, 3) := by decide +kernel
theorem dX5_become_5 : decode cX5_become 5 = .ok (.aload_n 0, 1) := by decide +kernel
theorem dX5_become_6 : decode cX5_become 6 = .ok (.iconst 0, 1) := by decide +kernel
theorem dX5_become_7 : decode cX5_become 7 = .ok (.bipush 40, 2) := by decide +kernel
theorem dX5_become_9 : decode cX5_become 9 = .ok (.iload_n 2, 1) := by decide +kernel
theorem dX5_become_10 : decode cX5_become 10 = .ok (.invokestatic 17, 3) := by decide +kernel
theorem dX5_become_13 : decode cX5_become 13 = .ok (.invokestatic 23, 3) := by decide +kernel
theorem dX5_become_16 : decode cX5_become 16 = .ok (.putfield 26, 3) := by decide +kernel
theorem dX5_become_19 : decode cX5_become 19 = .ok (.iconst 0, 1) := by decide +kernel
theorem dX5_become_20 : decode cX5_become 20 = .ok (.istore_n 3, 1) := by decide +kernel
theorem dX5_become_21 : decode cX5_become 21 = .ok (.iload_n 3, 1) := by decide +kernel
theorem dX5_become_22 : decode cX5_become 22 = .ok (.aload_n 0, 1) := by decide +kernel
theorem dX5_become_23 : decode cX5_become 23 = .ok (.getfield 9, 3) := by decide +kernel
theorem dX5_become_26 : decode cX5_become 26 = .ok (.arraylength, 1) := by decide +kernel
theorem dX5_become_27 : decode cX5_become 27 = .ok (.if_icmp .ge 16, 3) := by decide +kernel
theorem dX5_become_30 : decode cX5_become 30 = .ok (.aload_n 0, 1) := by decide +kernel
theorem dX5_become_31 : decode cX5_become 31 = .ok (.getfield 9, 3) := by decide +kernel
theorem dX5_become_34 : decode cX5_become 34 = .ok (.iload_n 3, 1) := by decide +kernel
theorem dX5_become_35 : decode cX5_become 35 = .ok (.iconst 0, 1) := by decide +kernel
theorem dX5_become_36 : decode cX5_become 36 = .ok (.iastore, 1) := by decide +kernel
theorem dX5_become_37 : decode cX5_become 37 = .ok (.iinc 3 1, 3) := by decide +kernel
theorem dX5_become_40 : decode cX5_become 40 = .ok (.goto (-19), 3) := by decide +kernel
theorem dX5_become_43 : decode cX5_become 43 = .ok (.return_, 1) := by decide +kernel
theorem dX5_isMissing_0 : decode cX5_isMissing 0 = .ok (.aload_n 0, 1) := by decide +kernel
theorem dX5_isMissing_1 : decode cX5_isMissing 1 = .ok (.getfield 13, 3) := by decide +kernel
theorem dX5_isMissing_4 : decode cX5_isMissing 4 = .ok (.iconst (-1), 1) := by decide +kernel
theorem dX5_isMissing_5 : decode cX5_isMissing 5 = .ok (.if_icmp .ne 7, 3) := by decide +kernel
theorem dX5_isMissing_8 : decode cX5_isMissing 8 = .ok (.iconst 1, 1) := by decide +kernel
theorem dX5_isMissing_9 : decode cX5_isMissing 9 = .ok (.goto 4, 3) := by decide +kernel
theorem dX5_isMissing_12 : decode cX5_isMissing 12 = .ok (.iconst 0, 1) := by decide +kernel
theorem dX5_isMissing_13 : decode cX5_isMissing 13 = .ok (.ireturn, 1) := by decide +kernel
theorem dX5_hasRow_0 : decode cX5_hasRow 0 = .ok (.iload_n 1, 1) := by decide +kernel
theorem dX5_hasRow_1 : decode cX5_hasRow 1 = .ok (.ifCond .lt 29, 3) := by decide +kernel
theorem dX5_hasRow_4 : decode cX5_hasRow 4 = .ok (.iload_n 2, 1) := by decide +kernel
theorem dX5_hasRow_5 : decode cX5_hasRow 5 = .ok (.ifCond .lt 25, 3) := by decide +kernel
theorem dX5_hasRow_8 : decode cX5_hasRow 8 = .ok (.iload_n 2, 1) := by decide +kernel
theorem dX5_hasRow_9 : decode cX5_hasRow 9 = .ok (.aload_n 0, 1) := by decide +kernel
theorem dX5_hasRow_10 : decode cX5_hasRow 10 = .ok (.getfield 26, 3) := by decide +kernel
theorem dX5_hasRow_13 : decode cX5_hasRow 13 = .ok (.if_icmp .gt 17, 3) := by decide +kernel
theorem dX5_hasRow_16 : decode cX5_hasRow 16 = .ok (.iload_n 1, 1) := by decide +kernel
theorem dX5_hasRow_17 : decode cX5_hasRow 17 = .ok (.aload_n 0, 1) := by decide +kernel
theorem dX5_hasRow_18 : decode cX5_hasRow 18 = .ok (.getfield 26, 3) := by decide +kernel
theorem dX5_hasRow_21 : decode cX5_hasRow 21 = .ok (.iload_n 2, 1) := by decide +kernel
theorem dX5_hasRow_22 : decode cX5_hasRow 22 = .ok (.isub, 1) := by decide +kernel
theorem dX5_hasRow_23 : decode cX5_hasRow 23 = .ok (.if_icmp .gt 7, 3) := by decide +kernel
theorem dX5_hasRow_26 : decode cX5_hasRow 26 = .ok (.iconst 1, 1) := by decide +kernel
theorem dX5_hasRow_27 : decode cX5_hasRow 27 = .ok (.goto 4, 3) := by decide +kernel
theorem dX5_hasRow_30 : decode cX5_hasRow 30 = .ok (.iconst 0, 1) := by decide +kernel
theorem dX5_hasRow_31 : decode cX5_hasRow 31 = .ok (.ireturn, 1) := by decide +kernel
theorem dX5_tell_0 : decode cX5_tell 0 = .ok (.aload_n 0, 1) := by decide +kernel
theorem dX5_tell_1 : decode cX5_tell 1 = .ok (.iload_n 1, 1) := by decide +kernel
theorem dX5_tell_2 : decode cX5_tell 2 = .ok (.iconst 1, 1) := by decide +kernel
theorem dX5_tell_3 : decode cX5_tell 3 = .ok (.invokevirtual 29, 3) := by decide +kernel
theorem dX5_tell_6 : decode cX5_tell 6 = .ok (.ifCond .eq 12, 3) := by decide +kernel
theorem dX5_tell_9 : decode cX5_tell 9 = .ok (.aload_n 0, 1) := by decide +kernel
theorem dX5_tell_10 : decode cX5_tell 10 = .ok (.getfield 9, 3) := by decide +kernel
theorem dX5_tell_13 : decode cX5_tell 13 = .ok (.iload_n 1, 1) := by decide +kernel
theorem dX5_tell_14 : decode cX5_tell 14 = .ok (.iaload, 1) := by decide +kernel
theorem dX5_tell_15 : decode cX5_tell 15 = .ok (.goto 4, 3) := by decide +kernel
theorem dX5_tell_18 : decode cX5_tell 18 = .ok (.iconst 0, 1) := by decide +kernel
theorem dX5_tell_19 : decode cX5_tell 19 = .ok (.ireturn, 1) := by decide +kernel
theorem dX5_put_0 : decode cX5_put 0 = .ok (.aload_n 0, 1) := by decide +kernel
theorem dX5_put_1 : decode cX5_put 1 = .ok (.iload_n 1, 1) := by decide +kernel
theorem dX5_put_2 : decode cX5_put 2 = .ok (.iconst 1, 1) := by decide +kernel
theorem dX5_put_3 : decode cX5_put 3 = .ok (.invokevirtual 29, 3) := by decide +kernel
theorem dX5_put_6 : decode cX5_put 6 = .ok (.ifCond .eq 35, 3) := by decide +kernel
theorem dX5_put_9 : decode cX5_put 9 = .ok (.aload_n 0, 1) := by decide +kernel
theorem dX5_put_10 : decode cX5_put 10 = .ok (.getfield 9, 3) := by decide +kernel
theorem dX5_put_13 : decode cX5_put 13 = .ok (.iload_n 1, 1) := by decide +kernel
theorem dX5_put_14 : decode cX5_put 14 = .ok (.aload_n 0, 1) := by decide +kernel
theorem dX5_put_15 : decode cX5_put 15 = .ok (.getfield 13, 3) := by decide +kernel
theorem dX5_put_18 : decode cX5_put 18 = .ok (.ifCond .ne 8, 3) := by decide +kernel
theorem dX5_put_21 : decode cX5_put 21 = .ok (.iload_n 2, 1) := by decide +kernel
theorem dX5_put_22 : decode cX5_put 22 = .ok (.i2b, 1) := by decide +kernel
theorem dX5_put_23 : decode cX5_put 23 = .ok (.goto 17, 3) := by decide +kernel
theorem dX5_put_26 : decode cX5_put 26 = .ok (.aload_n 0, 1) := by decide +kernel
theorem dX5_put_27 : decode cX5_put 27 = .ok (.getfield 13, 3) := by decide +kernel
theorem dX5_put_30 : decode cX5_put 30 = .ok (.iconst 1, 1) := by decide +kernel
theorem dX5_put_31 : decode cX5_put 31 = .ok (.if_icmp .ne 8, 3) := by decide +kernel
theorem dX5_put_34 : decode cX5_put 34 = .ok (.iload_n 2, 1) := by decide +kernel
theorem dX5_put_35 : decode cX5_put 35 = .ok (.i2s, 1) := by decide +kernel
theorem dX5_put_36 : decode cX5_put 36 = .ok (.goto 4, 3) := by decide +kernel
theorem dX5_put_39 : decode cX5_put 39 = .ok (.iload_n 2, 1) := by decide +kernel
theorem dX5_put_40 : decode cX5_put 40 = .ok (.iastore, 1) := by decide +kernel
theorem dX5_put_41 : decode cX5_put 41 = .ok (.return_, 1) := by decide +kernel
theorem dX5_takeRow_0 : decode cX5_takeRow 0 = .ok (.aload_n 0, 1) := by decide +kernel
theorem dX5_takeRow_1 : decode cX5_takeRow 1 = .ok (.iload_n 1, 1) := by decide +kernel
theorem dX5_takeRow_2 : decode cX5_takeRow 2 = .ok (.iload 4, 2) := by decide +kernel
theorem dX5_takeRow_4 : decode cX5_takeRow 4 = .ok (.invokevirtual 29, 3) := by decide +kernel
theorem dX5_takeRow_7 : decode cX5_takeRow 7 = .ok (.ifCond .eq 28, 3) := by decide +kernel
theorem dX5_takeRow_10 : decode cX5_takeRow 10 = .ok (.aload_n 2, 1) := by decide +kernel
theorem dX5_takeRow_11 : decode cX5_takeRow 11 = .ok (.iload_n 3, 1) := by decide +kernel
theorem dX5_takeRow_12 : decode cX5_takeRow 12 = .ok (.iload 4, 2) := by decide +kernel
theorem dX5_takeRow_14 : decode cX5_takeRow 14 = .ok (.invokevirtual 29, 3) := by decide +kernel
theorem dX5_takeRow_17 : decode cX5_takeRow 17 = .ok (.ifCond .eq 18, 3) := by decide +kernel
theorem dX5_takeRow_20 : decode cX5_takeRow 20 = .ok (.aload_n 2, 1) := by decide +kernel
theorem dX5_takeRow_21 : decode cX5_takeRow 21 = .ok (.getfield 9, 3) := by decide +kernel
theorem dX5_takeRow_24 : decode cX5_takeRow 24 = .ok (.iload_n 3, 1) := by decide +kernel
theorem dX5_takeRow_25 : decode cX5_takeRow 25 = .ok (.aload_n 0, 1) := by decide +kernel
theorem dX5_takeRow_26 : decode cX5_takeRow 26 = .ok (.getfield 9, 3) := by decide +kernel
theorem dX5_takeRow_29 : decode cX5_takeRow 29 = .ok (.iload_n 1, 1) := by decide +kernel
theorem dX5_takeRow_30 : decode cX5_takeRow 30 = .ok (.iload 4, 2) := by decide +kernel
theorem dX5_takeRow_32 : decode cX5_takeRow 32 = .ok (.invokestatic 33, 3) := by decide +kernel
theorem dX5_takeRow_35 : decode cX5_takeRow 35 = .ok (.return_, 1) := by decide +kernel
theorem dX6_init_0 : decode cX6_init 0 = .ok (.aload_n 0, 1) := by decide +kernel
theorem dX6_init_1 : decode cX6_init 1 = .ok (.invokespecial 1, 3) := by decide +kernel
theorem dX6_init_4 : decode cX6_init 4 = .ok (.aload_n 0, 1) := by decide +kernel
theorem dX6_init_5 : decode cX6_init 5 = .ok (.iconst 4, 1) := by decide +kernel
theorem dX6_init_6 : decode cX6_init 6 = .ok (.anewarray 9, 3) := by decide +kernel
theorem dX6_init_9 : decode cX6_init 9 = .ok (.putfield 11, 3) := by decide +kernel
theorem dX6_init_12 : decode cX6_init 12 = .ok (.aload_n 0, 1) := by decide +kernel
theorem dX6_init_13 : decode cX6_init 13 = .ok (.bipush 12, 2) := by decide +kernel
theorem dX6_init_15 : decode cX6_init 15 = .ok (.anewarray 15, 3) := by decide +kernel
theorem dX6_init_18 : decode cX6_init 18 = .ok (.putfield 17, 3) := by decide +kernel
theorem dX6_init_21 : decode cX6_init 21 = .ok (.aload_n 0, 1) := by decide +kernel
theorem dX6_init_22 : decode cX6_init 22 = .ok (.bipush 6, 2) := by decide +kernel
theorem dX6_init_24 : decode cX6_init 24 = .ok (.anewarray 21, 3) := by decide +kernel
theorem dX6_init_27 : decode cX6_init 27 = .ok (.putfield 23, 3) := by decide +kernel
theorem dX6_init_30 : decode cX6_init 30 = .ok (.aload_n 0, 1) := by decide +kernel
theorem dX6_init_31 : decode cX6_init 31 = .ok (.iconst 3, 1) := by decide +kernel
theorem dX6_init_32 : decode cX6_init 32 = .ok (.newarray .int, 2) := by decide +kernel
theorem dX6_init_34 : decode cX6_init 34 = .ok (.dup, 1) := by decide +kernel
theorem dX6_init_35 : decode cX6_init 35 = .ok (.iconst 0, 1) := by decide +kernel
theorem dX6_init_36 : decode cX6_init 36 = .ok (.iconst 4, 1) := by decide +kernel
theorem dX6_init_37 : decode cX6_init 37 = .ok (.iastore, 1) := by decide +kernel
theorem dX6_init_38 : decode cX6_init 38 = .ok (.dup, 1) := by decide +kernel
theorem dX6_init_39 : decode cX6_init 39 = .ok (.iconst 1, 1) := by decide +kernel
theorem dX6_init_40 : decode cX6_init 40 = .ok (.bipush 20, 2) := by decide +kernel
theorem dX6_init_42 : decode cX6_init 42 = .ok (.iastore, 1) := by decide +kernel
theorem dX6_init_43 : decode cX6_init 43 = .ok (.dup, 1) := by decide +kernel
theorem dX6_init_44 : decode cX6_init 44 = .ok (.iconst 2, 1) := by decide +kernel
theorem dX6_init_45 : decode cX6_init 45 = .ok (.iconst 3, 1) := by decide +kernel
theorem dX6_init_46 : decode cX6_init 46 = .ok (.iastore, 1) := by decide +kernel
theorem dX6_init_47 : decode cX6_init 47 = .ok (.putfield 27, 3) := by decide +kernel
theorem dX6_init_50 : decode cX6_init 50 = .ok (.aload_n 0, 1) := by decide +kernel
theorem dX6_init_51 : decode cX6_init 51 = .ok (.new 31, 3) := by decide +kernel
theorem dX6_init_54 : decode cX6_init 54 = .ok (.dup, 1) := by decide +kernel
theorem dX6_init_55 : decode cX6_init 55 = .ok (.invokespecial 33, 3) := by decide +kernel
theorem dX6_init_58 : decode cX6_init 58 = .ok (.putfield 34, 3) := by decide +kernel
theorem dX6_init_61 : decode cX6_init 61 = .ok (.aload_n 0, 1) := by decide +kernel
theorem dX6_init_62 : decode cX6_init 62 = .ok (.iconst 4, 1) := by decide +kernel
theorem dX6_init_63 : decode cX6_init 63 = .ok (.anewarray 38, 3) := by decide +kernel
theorem dX6_init_66 : decode cX6_init 66 = .ok (.putfield 40, 3) := by decide +kernel
theorem dX6_init_69 : decode cX6_init 69 = .ok (.aload_n 0, 1) := by decide +kernel
theorem dX6_init_70 : decode cX6_init 70 = .ok (.iconst 4, 1) := by decide +kernel
theorem dX6_init_71 : decode cX6_init 71 = .ok (.anewarray 9, 3) := by decide +kernel
theorem dX6_init_74 : decode cX6_init 74 = .ok (.putfield 44, 3) := by decide +kernel
theorem dX6_init_77 : decode cX6_init 77 = .ok (.aload_n 0, 1) := by decide +kernel
theorem dX6_init_78 : decode cX6_init 78 = .ok (.iconst (-1), 1) := by decide +kernel
theorem dX6_init_79 : decode cX6_init 79 = .ok (.putfield 47, 3) := by decide +kernel
theorem dX6_init_82 : decode cX6_init 82 = .ok (.aload_n 0, 1) := by decide +kernel
theorem dX6_init_83 : decode cX6_init 83 = .ok (.iconst 3, 1) := by decide +kernel
theorem dX6_init_84 : decode cX6_init 84 = .ok (.newarray .int, 2) := by decide +kernel
theorem dX6_init_86 : decode cX6_init 86 = .ok (.putfield 51, 3) := by decide +kernel
theorem dX6_init_89 : decode cX6_init 89 = .ok (.aload_n 0, 1) := by decide +kernel
theorem dX6_init_90 : decode cX6_init 90 = .ok (.new 54, 3) := by decide +kernel
theorem dX6_init_93 : decode cX6_init 93 = .ok (.dup, 1) := by decide +kernel
theorem dX6_init_94 : decode cX6_init 94 = .ok (.invokespecial 56, 3) := by decide +kernel
theorem dX6_init_97 : decode cX6_init 97 = .ok (.putfield 57, 3) := by decide +kernel
theorem dX6_init_100 : decode cX6_init 100 = .ok (.aload_n 0, 1) := by decide +kernel
theorem dX6_init_101 : decode cX6_init 101 = .ok (.new 54, 3) := by decide +kernel
theorem dX6_init_104 : decode cX6_init 104 = .ok (.dup, 1) := by decide +kernel
theorem dX6_init_105 : decode cX6_init 105 = .ok (.invokespecial 56, 3) := by decide +kernel
theorem dX6_init_108 : decode cX6_init 108 = .ok (.putfield 61, 3) := by decide +kernel
theorem dX6_init_111 : decode cX6_init 111 = .ok (.aload_n 0, 1) := by decide +kernel
theorem dX6_init_112 : decode cX6_init 112 = .ok (.new 15, 3) := by decide +kernel
theorem dX6_init_115 : decode cX6_init 115 = .ok (.dup, 1) := by decide +kernel
theorem dX6_init_116 : decode cX6_init 116 = .ok (.invokespecial 64, 3) := by decide +kernel
theorem dX6_init_119 : decode cX6_init 119 = .ok (.putfield 65, 3) := by decide +kernel
theorem dX6_init_122 : decode cX6_init 122 = .ok (.iconst 0, 1) := by decide +kernel
theorem dX6_init_123 : decode cX6_init 123 = .ok (.istore_n 1, 1) := by decide +kernel
theorem dX6_init_124 : decode cX6_init 124 = .ok (.iload_n 1, 1) := by decide +kernel
theorem dX6_init_125 : decode cX6_init 125 = .ok (.iconst 4, 1) := by decide +kernel
theorem dX6_init_126 : decode cX6_init 126 = .ok (.if_icmp .ge 35, 3) := by decide +kernel
theorem dX6_init_129 : decode cX6_init 129 = .ok (.aload_n 0, 1) := by decide +kernel
theorem dX6_init_130 : decode cX6_init 130 = .ok (.getfield 11, 3) := by decide +kernel
theorem dX6_init_133 : decode cX6_init 133 = .ok (.iload_n 1, 1) := by decide +kernel
theorem dX6_init_134 : decode cX6_init 134 = .ok (.new 9, 3) := by decide +kernel
theorem dX6_init_137 : decode cX6_init 137 = .ok (.dup, 1) := by decide +kernel
theorem dX6_init_138 : decode cX6_init 138 = .ok (.invokespecial 69, 3) := by decide +kernel
theorem dX6_init_141 : decode cX6_init 141 = .ok (.aastore, 1) := by decide +kernel
theorem dX6_init_142 : decode cX6_init 142 = .ok (.aload_n 0, 1) := by decide +kernel
theorem dX6_init_143 : decode cX6_init 143 = .ok (.getfield 44, 3) := by decide +kernel
theorem dX6_init_146 : decode cX6_init 146 = .ok (.iload_n 1, 1) := by decide +kernel
theorem dX6_init_147 : decode cX6_init 147 = .ok (.new 9, 3) := by decide +kernel
theorem dX6_init_150 : decode cX6_init 150 = .ok (.dup, 1) := by decide +kernel
theorem dX6_init_151 : decode cX6_init 151 = .ok (.invokespecial 69, 3) := by decide +kernel
theorem dX6_init_154 : decode cX6_init 154 = .ok (.aastore, 1) := by decide +kernel
theorem dX6_init_155 : decode cX6_init 155 = .ok (.iinc 1 1, 3) := by decide +kernel
theorem dX6_init_158 : decode cX6_init 158 = .ok (.goto (-34), 3) := by decide +kernel
theorem dX6_init_161 : decode cX6_init 161 = .ok (.iconst 0, 1) := by decide +kernel
theorem dX6_init_162 : decode cX6_init 162 = .ok (.istore_n 1, 1) := by decide +kernel
theorem dX6_init_163 : decode cX6_init 163 = .ok (.iload_n 1, 1) := by decide +kernel
theorem dX6_init_164 : decode cX6_init 164 = .ok (.bipush 12, 2) := by decide +kernel
theorem dX6_init_166 : decode cX6_init 166 = .ok (.if_icmp .ge 22, 3) := by decide +kernel
theorem dX6_init_169 : decode cX6_init 169 = .ok (.aload_n 0, 1) := by decide +kernel
theorem dX6_init_170 : decode cX6_init 170 = .ok (.getfield 17, 3) := by decide +kernel
theorem dX6_init_173 : decode cX6_init 173 = .ok (.iload_n 1, 1) := by decide +kernel
theorem dX6_init_174 : decode cX6_init 174 = .ok (.new 15, 3) := by decide +kernel
theorem dX6_init_177 : decode cX6_init 177 = .ok (.dup, 1) := by decide +kernel
theorem dX6_init_178 : decode cX6_init 178 = .ok (.invokespecial 64, 3) := by decide +kernel
theorem dX6_init_181 : decode cX6_init 181 = .ok (.aastore, 1) := by decide +kernel
theorem dX6_init_182 : decode cX6_init 182 = .ok (.iinc 1 1, 3) := by decide +kernel
theorem dX6_init_185 : decode cX6_init 185 = .ok (.goto (-22), 3) := by decide +kernel
theorem dX6_init_188 : decode cX6_init 188 = .ok (.iconst 0, 1) := by decide +kernel
theorem dX6_init_189 : decode cX6_init 189 = .ok (.istore_n 1, 1) := by decide +kernel
theorem dX6_init_190 : decode cX6_init 190 = .ok (.iload_n 1, 1) := by decide +kernel
theorem dX6_init_191 : decode cX6_init 191 = .ok (.iconst 4, 1) := by decide +kernel
theorem dX6_init_192 : decode cX6_init 192 = .ok (.if_icmp .ge 22, 3) := by decide +kernel
theorem dX6_init_195 : decode cX6_init 195 = .ok (.aload_n 0, 1) := by decide +kernel
theorem dX6_init_196 : decode cX6_init 196 = .ok (.getfield 40, 3) := by decide +kernel
theorem dX6_init_199 : decode cX6_init 199 = .ok (.iload_n 1, 1) := by decide +kernel
theorem dX6_init_200 : decode cX6_init 200 = .ok (.new 38, 3) := by decide +kernel
theorem dX6_init_203 : decode cX6_init 203 = .ok (.dup, 1) := by decide +kernel
theorem dX6_init_204 : decode cX6_init 204 = .ok (.invokespecial 70, 3) := by decide +kernel
theorem dX6_init_207 : decode cX6_init 207 = .ok (.aastore, 1) := by decide +kernel
theorem dX6_init_208 : decode cX6_init 208 = .ok (.iinc 1 1, 3) := by decide +kernel
theorem dX6_init_211 : decode cX6_init 211 = .ok (.goto (-21), 3) := by decide +kernel
theorem dX6_init_214 : decode cX6_init 214 = .ok (.iconst 0, 1) := by decide +kernel
theorem dX6_init_215 : decode cX6_init 215 = .ok (.istore_n 1, 1) := by decide +kernel
theorem dX6_init_216 : decode cX6_init 216 = .ok (.iload_n 1, 1) := by decide +kernel
theorem dX6_init_217 : decode cX6_init 217 = .ok (.ldc 71, 2) := by decide +kernel
theorem dX6_init_219 : decode cX6_init 219 = .ok (.invokevirtual 73, 3) := by decide +kernel
theorem dX6_init_222 : decode cX6_init 222 = .ok (.if_icmp .ge 22, 3) := by decide +kernel
theorem dX6_init_225 : decode cX6_init 225 = .ok (.aload_n 0, 1) := by decide +kernel
theorem dX6_init_226 : decode cX6_init 226 = .ok (.getfield 34, 3) := by decide +kernel
theorem dX6_init_229 : decode cX6_init 229 = .ok (.ldc 71, 2) := by decide +kernel
theorem dX6_init_231 : decode cX6_init 231 = .ok (.iload_n 1, 1) := by decide +kernel
theorem dX6_init_232 : decode cX6_init 232 = .ok (.invokevirtual 79, 3) := by decide +kernel
theorem dX6_init_235 : decode cX6_init 235 = .ok (.invokevirtual 83, 3) := by decide +kernel
theorem dX6_init_238 : decode cX6_init 238 = .ok (.iinc 1 1, 3) := by decide +kernel
theorem dX6_init_241 : decode cX6_init 241 = .ok (.goto (-25), 3) := by decide +kernel
theorem dX6_init_244 : decode cX6_init 244 = .ok (.aload_n 0, 1) := by decide +kernel
theorem dX6_init_245 : decode cX6_init 245 = .ok (.getfield 23, 3) := by decide +kernel
theorem dX6_init_248 : decode cX6_init 248 = .ok (.iconst 0, 1) := by decide +kernel
theorem dX6_init_249 : decode cX6_init 249 = .ok (.aload_n 0, 1) := by decide +kernel
theorem dX6_init_250 : decode cX6_init 250 = .ok (.getfield 34, 3) := by decide +kernel
theorem dX6_init_253 : decode cX6_init 253 = .ok (.invokevirtual 87, 3) := by decide +kernel
theorem dX6_init_256 : decode cX6_init 256 = .ok (.aastore, 1) := by decide +kernel
theorem dX6_init_257 : decode cX6_init 257 = .ok (.aload_n 0, 1) := by decide +kernel
theorem dX6_init_258 : decode cX6_init 258 = .ok (.iconst 1, 1) := by decide +kernel
theorem dX6_init_259 : decode cX6_init 259 = .ok (.putfield 91, 3) := by decide +kernel
theorem dX6_init_262 : decode cX6_init 262 = .ok (.return_, 1) := by decide +kernel
theorem dX6_cheese_0 : decode cX6_cheese 0 = .ok (.iconst 0, 1) := by decide +kernel
theorem dX6_cheese_1 : decode cX6_cheese 1 = .ok (.iload_n 1, 1) := by decide +kernel
theorem dX6_cheese_2 : decode cX6_cheese 2 = .ok (.invokestatic 94, 3) := by decide +kernel
theorem dX6_cheese_5 : decode cX6_cheese 5 = .ok (.ifCond .eq 41, 3) := by decide +kernel
theorem dX6_cheese_8 : decode cX6_cheese 8 = .ok (.iconst 1, 1) := by decide +kernel
theorem dX6_cheese_9 : decode cX6_cheese 9 = .ok (.iload_n 2, 1) := by decide +kernel
theorem dX6_cheese_10 : decode cX6_cheese 10 = .ok (.invokestatic 94, 3) := by decide +kernel
theorem dX6_cheese_13 : decode cX6_cheese 13 = .ok (.ifCond .eq 33, 3) := by decide +kernel
theorem dX6_cheese_16 : decode cX6_cheese 16 = .ok (.iconst 2, 1) := by decide +kernel
theorem dX6_cheese_17 : decode cX6_cheese 17 = .ok (.iload_n 3, 1) := by decide +kernel
theorem dX6_cheese_18 : decode cX6_cheese 18 = .ok (.invokestatic 94, 3) := by decide +kernel
theorem dX6_cheese_21 : decode cX6_cheese 21 = .ok (.ifCond .eq 25, 3) := by decide +kernel
theorem dX6_cheese_24 : decode cX6_cheese 24 = .ok (.iconst 3, 1) := by decide +kernel
theorem dX6_cheese_25 : decode cX6_cheese 25 = .ok (.iload 4, 2) := by decide +kernel
theorem dX6_cheese_27 : decode cX6_cheese 27 = .ok (.invokestatic 94, 3) := by decide +kernel
theorem dX6_cheese_30 : decode cX6_cheese 30 = .ok (.ifCond .eq 16, 3) := by decide +kernel
theorem dX6_cheese_33 : decode cX6_cheese 33 = .ok (.iconst 4, 1) := by decide +kernel
theorem dX6_cheese_34 : decode cX6_cheese 34 = .ok (.iload 5, 2) := by decide +kernel
theorem dX6_cheese_36 : decode cX6_cheese 36 = .ok (.invokestatic 94, 3) := by decide +kernel
theorem dX6_cheese_39 : decode cX6_cheese 39 = .ok (.ifCond .eq 7, 3) := by decide +kernel
theorem dX6_cheese_42 : decode cX6_cheese 42 = .ok (.iconst 1, 1) := by decide +kernel
theorem dX6_cheese_43 : decode cX6_cheese 43 = .ok (.goto 4, 3) := by decide +kernel
theorem dX6_cheese_46 : decode cX6_cheese 46 = .ok (.iconst 0, 1) := by decide +kernel
theorem dX6_cheese_47 : decode cX6_cheese 47 = .ok (.istore 6, 2) := by decide +kernel
theorem dX6_cheese_49 : decode cX6_cheese 49 = .ok (.iload 6, 2) := by decide +kernel
theorem dX6_cheese_51 : decode cX6_cheese 51 = .ok (.ifCond .ne 6, 3) := by decide +kernel
theorem dX6_cheese_54 : decode cX6_cheese 54 = .ok (.bipush (-2), 2) := by decide +kernel
theorem dX6_cheese_56 : decode cX6_cheese 56 = .ok (.ireturn, 1) := by decide +kernel
theorem dX6_cheese_57 : decode cX6_cheese 57 = .ok (.aload_n 0, 1) := by decide +kernel
theorem dX6_cheese_58 : decode cX6_cheese 58 = .ok (.getfield 98, 3) := by decide +kernel
theorem dX6_cheese_61 : decode cX6_cheese 61 = .ok (.iconst 4, 1) := by decide +kernel
theorem dX6_cheese_62 : decode cX6_cheese 62 = .ok (.if_icmp .lt 6, 3) := by decide +kernel
theorem dX6_cheese_65 : decode cX6_cheese 65 = .ok (.bipush (-4), 2) := by decide +kernel
theorem dX6_cheese_67 : decode cX6_cheese 67 = .ok (.ireturn, 1) := by decide +kernel
theorem dX6_cheese_68 : decode cX6_cheese 68 = .ok (.aload_n 0, 1) := by decide +kernel
theorem dX6_cheese_69 : decode cX6_cheese 69 = .ok (.dup, 1) := by decide +kernel
theorem dX6_cheese_70 : decode cX6_cheese 70 = .ok (.getfield 98, 3) := by decide +kernel
theorem dX6_cheese_73 : decode cX6_cheese 73 = .ok (.iconst 1, 1) := by decide +kernel
theorem dX6_cheese_74 : decode cX6_cheese 74 = .ok (.iadd, 1) := by decide +kernel
theorem dX6_cheese_75 : decode cX6_cheese 75 = .ok (.putfield 98, 3) := by decide +kernel
theorem dX6_cheese_78 : decode cX6_cheese 78 = .ok (.aload_n 0, 1) := by decide +kernel
theorem dX6_cheese_79 : decode cX6_cheese 79 = .ok (.aload_n 0, 1) := by decide +kernel
theorem dX6_cheese_80 : decode cX6_cheese 80 = .ok (.getfield 98, 3) := by decide +kernel
theorem dX6_cheese_83 : decode cX6_cheese 83 = .ok (.iconst 1, 1) := by decide +kernel
theorem dX6_cheese_84 : decode cX6_cheese 84 = .ok (.isub, 1) := by decide +kernel
theorem dX6_cheese_85 : decode cX6_cheese 85 = .ok (.invokevirtual 101, 3) := by decide +kernel
theorem dX6_cheese_88 : decode cX6_cheese 88 = .ok (.astore 7, 2) := by decide +kernel
theorem dX6_cheese_90 : decode cX6_cheese 90 = .ok (.aload 7, 2) := by decide +kernel
theorem dX6_cheese_92 : decode cX6_cheese 92 = .ok (.ifnull 40, 3) := by decide +kernel
theorem dX6_cheese_95 : decode cX6_cheese 95 = .ok (.aload 7, 2) := by decide +kernel
theorem dX6_cheese_97 : decode cX6_cheese 97 = .ok (.iconst 0, 1) := by decide +kernel
theorem dX6_cheese_98 : decode cX6_cheese 98 = .ok (.iload_n 1, 1) := by decide +kernel
theorem dX6_cheese_99 : decode cX6_cheese 99 = .ok (.invokevirtual 105, 3) := by decide +kernel
theorem dX6_cheese_102 : decode cX6_cheese 102 = .ok (.aload 7, 2) := by decide +kernel
theorem dX6_cheese_104 : decode cX6_cheese 104 = .ok (.iconst 1, 1) := by decide +kernel
theorem dX6_cheese_105 : decode cX6_cheese 105 = .ok (.iload_n 2, 1) := by decide +kernel
theorem dX6_cheese_106 : decode cX6_cheese 106 = .ok (.invokevirtual 105, 3) := by decide +kernel
theorem dX6_cheese_109 : decode cX6_cheese 109 = .ok (.aload 7, 2) := by decide +kernel
theorem dX6_cheese_111 : decode cX6_cheese 111 = .ok (.iconst 2, 1) := by decide +kernel
theorem dX6_cheese_112 : decode cX6_cheese 112 = .ok (.iload_n 3, 1) := by decide +kernel
theorem dX6_cheese_113 : decode cX6_cheese 113 = .ok (.invokevirtual 105, 3) := by decide +kernel
theorem dX6_cheese_116 : decode cX6_cheese 116 = .ok (.aload 7, 2) := by decide +kernel
theorem dX6_cheese_118 : decode cX6_cheese 118 = .ok (.iconst 3, 1) := by decide +kernel
theorem dX6_cheese_119 : decode cX6_cheese 119 = .ok (.iload 4, 2) := by decide +kernel
theorem dX6_cheese_121 : decode cX6_cheese 121 = .ok (.invokevirtual 105, 3) := by decide +kernel
theorem dX6_cheese_124 : decode cX6_cheese 124 = .ok (.aload 7, 2) := by decide +kernel
theorem dX6_cheese_126 : decode cX6_cheese 126 = .ok (.iconst 4, 1) := by decide +kernel
theorem dX6_cheese_127 : decode cX6_cheese 127 = .ok (.iload 5, 2) := by decide +kernel
theorem dX6_cheese_129 : decode cX6_cheese 129 = .ok (.invokevirtual 105, 3) := by decide +kernel
theorem dX6_cheese_132 : decode cX6_cheese 132 = .ok (.aload_n 0, 1) := by decide +kernel
theorem dX6_cheese_133 : decode cX6_cheese 133 = .ok (.getfield 98, 3) := by decide +kernel
theorem dX6_cheese_136 : decode cX6_cheese 136 = .ok (.iconst 1, 1) := by decide +kernel
theorem dX6_cheese_137 : decode cX6_cheese 137 = .ok (.isub, 1) := by decide +kernel
theorem dX6_cheese_138 : decode cX6_cheese 138 = .ok (.ireturn, 1) := by decide +kernel
theorem dX6_ripen_0 : decode cX6_ripen 0 = .ok (.aload_n 0, 1) := by decide +kernel
theorem dX6_ripen_1 : decode cX6_ripen 1 = .ok (.iload_n 1, 1) := by decide +kernel
theorem dX6_ripen_2 : decode cX6_ripen 2 = .ok (.invokevirtual 101, 3) := by decide +kernel
theorem dX6_ripen_5 : decode cX6_ripen 5 = .ok (.astore 4, 2) := by decide +kernel
theorem dX6_ripen_7 : decode cX6_ripen 7 = .ok (.aload 4, 2) := by decide +kernel
theorem dX6_ripen_9 : decode cX6_ripen 9 = .ok (.ifnonnull 6, 3) := by decide +kernel
theorem dX6_ripen_12 : decode cX6_ripen 12 = .ok (.bipush (-5), 2) := by decide +kernel
theorem dX6_ripen_14 : decode cX6_ripen 14 = .ok (.ireturn, 1) := by decide +kernel
theorem dX6_ripen_15 : decode cX6_ripen 15 = .ok (.iload_n 2, 1) := by decide +kernel
theorem dX6_ripen_16 : decode cX6_ripen 16 = .ok (.iload_n 3, 1) := by decide +kernel
theorem dX6_ripen_17 : decode cX6_ripen 17 = .ok (.invokestatic 94, 3) := by decide +kernel
theorem dX6_ripen_20 : decode cX6_ripen 20 = .ok (.ifCond .ne 6, 3) := by decide +kernel
theorem dX6_ripen_23 : decode cX6_ripen 23 = .ok (.bipush (-7), 2) := by decide +kernel
theorem dX6_ripen_25 : decode cX6_ripen 25 = .ok (.ireturn, 1) := by decide +kernel
theorem dX6_ripen_26 : decode cX6_ripen 26 = .ok (.aload 4, 2) := by decide +kernel
theorem dX6_ripen_28 : decode cX6_ripen 28 = .ok (.iload_n 2, 1) := by decide +kernel
theorem dX6_ripen_29 : decode cX6_ripen 29 = .ok (.invokevirtual 109, 3) := by decide +kernel
theorem dX6_ripen_32 : decode cX6_ripen 32 = .ok (.istore 5, 2) := by decide +kernel
theorem dX6_ripen_34 : decode cX6_ripen 34 = .ok (.aload 4, 2) := by decide +kernel
theorem dX6_ripen_36 : decode cX6_ripen 36 = .ok (.iload_n 2, 1) := by decide +kernel
theorem dX6_ripen_37 : decode cX6_ripen 37 = .ok (.iload_n 3, 1) := by decide +kernel
theorem dX6_ripen_38 : decode cX6_ripen 38 = .ok (.invokevirtual 105, 3) := by decide +kernel
theorem dX6_ripen_41 : decode cX6_ripen 41 = .ok (.iload 5, 2) := by decide +kernel
theorem dX6_ripen_43 : decode cX6_ripen 43 = .ok (.ireturn, 1) := by decide +kernel
theorem dX6_sortTold_0 : decode cX6_sortTold 0 = .ok (.aload_n 0, 1) := by decide +kernel
theorem dX6_sortTold_1 : decode cX6_sortTold 1 = .ok (.iload_n 1, 1) := by decide +kernel
theorem dX6_sortTold_2 : decode cX6_sortTold 2 = .ok (.invokevirtual 101, 3) := by decide +kernel
theorem dX6_sortTold_5 : decode cX6_sortTold 5 = .ok (.astore_n 3, 1) := by decide +kernel
theorem dX6_sortTold_6 : decode cX6_sortTold 6 = .ok (.aload_n 3, 1) := by decide +kernel
theorem dX6_sortTold_7 : decode cX6_sortTold 7 = .ok (.ifnonnull 6, 3) := by decide +kernel
theorem dX6_sortTold_10 : decode cX6_sortTold 10 = .ok (.bipush (-5), 2) := by decide +kernel
theorem dX6_sortTold_12 : decode cX6_sortTold 12 = .ok (.ireturn, 1) := by decide +kernel
theorem dX6_sortTold_13 : decode cX6_sortTold 13 = .ok (.iload_n 2, 1) := by decide +kernel
theorem dX6_sortTold_14 : decode cX6_sortTold 14 = .ok (.invokestatic 113, 3) := by decide +kernel
theorem dX6_sortTold_17 : decode cX6_sortTold 17 = .ok (.ifCond .eq 11, 3) := by decide +kernel
theorem dX6_sortTold_20 : decode cX6_sortTold 20 = .ok (.aload_n 3, 1) := by decide +kernel
theorem dX6_sortTold_21 : decode cX6_sortTold 21 = .ok (.iload_n 2, 1) := by decide +kernel
theorem dX6_sortTold_22 : decode cX6_sortTold 22 = .ok (.invokevirtual 109, 3) := by decide +kernel
theorem dX6_sortTold_25 : decode cX6_sortTold 25 = .ok (.goto 5, 3) := by decide +kernel
theorem dX6_sortTold_28 : decode cX6_sortTold 28 = .ok (.bipush (-7), 2) := by decide +kernel
theorem dX6_sortTold_30 : decode cX6_sortTold 30 = .ok (.ireturn, 1) := by decide +kernel
theorem dX6_set_0 : decode cX6_set 0 = .ok (.iload_n 1, 1) := by decide +kernel
theorem dX6_set_1 : decode cX6_set 1 = .ok (.ifCond .lt 8, 3) := by decide +kernel
theorem dX6_set_4 : decode cX6_set 4 = .ok (.iload_n 1, 1) := by decide +kernel
theorem dX6_set_5 : decode cX6_set 5 = .ok (.iconst 2, 1) := by decide +kernel
theorem dX6_set_6 : decode cX6_set 6 = .ok (.if_icmp .le 5, 3) := by decide +kernel
theorem dX6_set_9 : decode cX6_set 9 = .ok (.iconst (-1), 1) := by decide +kernel
theorem dX6_set_10 : decode cX6_set 10 = .ok (.ireturn, 1) := by decide +kernel
theorem dX6_set_11 : decode cX6_set 11 = .ok (.iload_n 2, 1) := by decide +kernel
theorem dX6_set_12 : decode cX6_set 12 = .ok (.ifCond .lt 12, 3) := by decide +kernel
theorem dX6_set_15 : decode cX6_set 15 = .ok (.iload_n 2, 1) := by decide +kernel
theorem dX6_set_16 : decode cX6_set 16 = .ok (.getstatic 117, 3) := by decide +kernel
theorem dX6_set_19 : decode cX6_set 19 = .ok (.iload_n 1, 1) := by decide +kernel
theorem dX6_set_20 : decode cX6_set 20 = .ok (.iaload, 1) := by decide +kernel
theorem dX6_set_21 : decode cX6_set 21 = .ok (.if_icmp .le 6, 3) := by decide +kernel
theorem dX6_set_24 : decode cX6_set 24 = .ok (.bipush (-2), 2) := by decide +kernel
theorem dX6_set_26 : decode cX6_set 26 = .ok (.ireturn, 1) := by decide +kernel
theorem dX6_set_27 : decode cX6_set 27 = .ok (.aload_n 0, 1) := by decide +kernel
theorem dX6_set_28 : decode cX6_set 28 = .ok (.getfield 27, 3) := by decide +kernel
theorem dX6_set_31 : decode cX6_set 31 = .ok (.iload_n 1, 1) := by decide +kernel
theorem dX6_set_32 : decode cX6_set 32 = .ok (.iaload, 1) := by decide +kernel
theorem dX6_set_33 : decode cX6_set 33 = .ok (.istore_n 3, 1) := by decide +kernel
theorem dX6_set_34 : decode cX6_set 34 = .ok (.aload_n 0, 1) := by decide +kernel
theorem dX6_set_35 : decode cX6_set 35 = .ok (.getfield 27, 3) := by decide +kernel
theorem dX6_set_38 : decode cX6_set 38 = .ok (.iload_n 1, 1) := by decide +kernel
theorem dX6_set_39 : decode cX6_set 39 = .ok (.iload_n 2, 1) := by decide +kernel
theorem dX6_set_40 : decode cX6_set 40 = .ok (.iastore, 1) := by decide +kernel
theorem dX6_set_41 : decode cX6_set 41 = .ok (.iload_n 3, 1) := by decide +kernel
theorem dX6_set_42 : decode cX6_set 42 = .ok (.ireturn, 1) := by decide +kernel
theorem dX6_count_0 : decode cX6_count 0 = .ok (.iload_n 1, 1) := by decide +kernel
theorem dX6_count_1 : decode cX6_count 1 = .ok (.tableswitch 82 0 7 #[47, 47, 47, 54, 59, 64, 69, 74], 47) := by decide +kernel
theorem dX6_count_48 : decode cX6_count 48 = .ok (.aload_n 0, 1) := by decide +kernel
theorem dX6_count_49 : decode cX6_count 49 = .ok (.getfield 27, 3) := by decide +kernel
theorem dX6_count_52 : decode cX6_count 52 = .ok (.iload_n 1, 1) := by decide +kernel
theorem dX6_count_53 : decode cX6_count 53 = .ok (.iaload, 1) := by decide +kernel
theorem dX6_count_54 : decode cX6_count 54 = .ok (.ireturn, 1) := by decide +kernel
theorem dX6_count_55 : decode cX6_count 55 = .ok (.aload_n 0, 1) := by decide +kernel
theorem dX6_count_56 : decode cX6_count 56 = .ok (.getfield 98, 3) := by decide +kernel
theorem dX6_count_59 : decode cX6_count 59 = .ok (.ireturn, 1) := by decide +kernel
theorem dX6_count_60 : decode cX6_count 60 = .ok (.aload_n 0, 1) := by decide +kernel
theorem dX6_count_61 : decode cX6_count 61 = .ok (.getfield 120, 3) := by decide +kernel
theorem dX6_count_64 : decode cX6_count 64 = .ok (.ireturn, 1) := by decide +kernel
theorem dX6_count_65 : decode cX6_count 65 = .ok (.aload_n 0, 1) := by decide +kernel
theorem dX6_count_66 : decode cX6_count 66 = .ok (.getfield 91, 3) := by decide +kernel
theorem dX6_count_69 : decode cX6_count 69 = .ok (.ireturn, 1) := by decide +kernel
theorem dX6_count_70 : decode cX6_count 70 = .ok (.aload_n 0, 1) := by decide +kernel
theorem dX6_count_71 : decode cX6_count 71 = .ok (.getfield 123, 3) := by decide +kernel
theorem dX6_count_74 : decode cX6_count 74 = .ok (.ireturn, 1) := by decide +kernel
theorem dX6_count_75 : decode cX6_count 75 = .ok (.aload_n 0, 1) := by decide +kernel
theorem dX6_count_76 : decode cX6_count 76 = .ok (.getfield 34, 3) := by decide +kernel
theorem dX6_count_79 : decode cX6_count 79 = .ok (.invokevirtual 126, 3) := by decide +kernel
theorem dX6_count_82 : decode cX6_count 82 = .ok (.ireturn, 1) := by decide +kernel
theorem dX6_count_83 : decode cX6_count 83 = .ok (.bipush (-2), 2) := by decide +kernel
theorem dX6_count_85 : decode cX6_count 85 = .ok (.ireturn, 1) := by decide +kernel
theorem dX6_feed_0 : decode cX6_feed 0 = .ok (.iload_n 1, 1) := by decide +kernel
theorem dX6_feed_1 : decode cX6_feed 1 = .ok (.iconst 1, 1) := by decide +kernel
theorem dX6_feed_2 : decode cX6_feed 2 = .ok (.if_icmp .lt 46, 3) := by decide +kernel
theorem dX6_feed_5 : decode cX6_feed 5 = .ok (.iload_n 1, 1) := by decide +kernel
theorem dX6_feed_6 : decode cX6_feed 6 = .ok (.iconst 5, 1) := by decide +kernel
theorem dX6_feed_7 : decode cX6_feed 7 = .ok (.if_icmp .gt 41, 3) := by decide +kernel
theorem dX6_feed_10 : decode cX6_feed 10 = .ok (.iload_n 2, 1) := by decide +kernel
theorem dX6_feed_11 : decode cX6_feed 11 = .ok (.invokestatic 129, 3) := by decide +kernel
theorem dX6_feed_14 : decode cX6_feed 14 = .ok (.ifCond .eq 34, 3) := by decide +kernel
theorem dX6_feed_17 : decode cX6_feed 17 = .ok (.iload_n 3, 1) := by decide +kernel
theorem dX6_feed_18 : decode cX6_feed 18 = .ok (.invokestatic 129, 3) := by decide +kernel
theorem dX6_feed_21 : decode cX6_feed 21 = .ok (.ifCond .eq 27, 3) := by decide +kernel
theorem dX6_feed_24 : decode cX6_feed 24 = .ok (.iload 4, 2) := by decide +kernel
theorem dX6_feed_26 : decode cX6_feed 26 = .ok (.invokestatic 129, 3) := by decide +kernel
theorem dX6_feed_29 : decode cX6_feed 29 = .ok (.ifCond .eq 19, 3) := by decide +kernel
theorem dX6_feed_32 : decode cX6_feed 32 = .ok (.iload 5, 2) := by decide +kernel
theorem dX6_feed_34 : decode cX6_feed 34 = .ok (.invokestatic 129, 3) := by decide +kernel
theorem dX6_feed_37 : decode cX6_feed 37 = .ok (.ifCond .eq 11, 3) := by decide +kernel
theorem dX6_feed_40 : decode cX6_feed 40 = .ok (.iload 6, 2) := by decide +kernel
theorem dX6_feed_42 : decode cX6_feed 42 = .ok (.invokestatic 129, 3) := by decide +kernel
theorem dX6_feed_45 : decode cX6_feed 45 = .ok (.ifCond .ne 6, 3) := by decide +kernel
theorem dX6_feed_48 : decode cX6_feed 48 = .ok (.bipush (-2), 2) := by decide +kernel
theorem dX6_feed_50 : decode cX6_feed 50 = .ok (.ireturn, 1) := by decide +kernel
theorem dX6_feed_51 : decode cX6_feed 51 = .ok (.aload_n 0, 1) := by decide +kernel
theorem dX6_feed_52 : decode cX6_feed 52 = .ok (.getfield 34, 3) := by decide +kernel
theorem dX6_feed_55 : decode cX6_feed 55 = .ok (.iload_n 1, 1) := by decide +kernel
theorem dX6_feed_56 : decode cX6_feed 56 = .ok (.invokevirtual 132, 3) := by decide +kernel
theorem dX6_feed_59 : decode cX6_feed 59 = .ok (.ifCond .ne 6, 3) := by decide +kernel
theorem dX6_feed_62 : decode cX6_feed 62 = .ok (.bipush (-4), 2) := by decide +kernel
theorem dX6_feed_64 : decode cX6_feed 64 = .ok (.ireturn, 1) := by decide +kernel
theorem dX6_feed_65 : decode cX6_feed 65 = .ok (.iconst 0, 1) := by decide +kernel
theorem dX6_feed_66 : decode cX6_feed 66 = .ok (.istore 7, 2) := by decide +kernel
theorem dX6_feed_68 : decode cX6_feed 68 = .ok (.iload 7, 2) := by decide +kernel
theorem dX6_feed_70 : decode cX6_feed 70 = .ok (.iload_n 1, 1) := by decide +kernel
theorem dX6_feed_71 : decode cX6_feed 71 = .ok (.if_icmp .ge 59, 3) := by decide +kernel
theorem dX6_feed_74 : decode cX6_feed 74 = .ok (.aload_n 0, 1) := by decide +kernel
theorem dX6_feed_75 : decode cX6_feed 75 = .ok (.getfield 34, 3) := by decide +kernel
theorem dX6_feed_78 : decode cX6_feed 78 = .ok (.iload 7, 2) := by decide +kernel
theorem dX6_feed_80 : decode cX6_feed 80 = .ok (.ifCond .ne 7, 3) := by decide +kernel
theorem dX6_feed_83 : decode cX6_feed 83 = .ok (.iload_n 2, 1) := by decide +kernel
theorem dX6_feed_84 : decode cX6_feed 84 = .ok (.goto 37, 3) := by decide +kernel
theorem dX6_feed_87 : decode cX6_feed 87 = .ok (.iload 7, 2) := by decide +kernel
theorem dX6_feed_89 : decode cX6_feed 89 = .ok (.iconst 1, 1) := by decide +kernel
theorem dX6_feed_90 : decode cX6_feed 90 = .ok (.if_icmp .ne 7, 3) := by decide +kernel
theorem dX6_feed_93 : decode cX6_feed 93 = .ok (.iload_n 3, 1) := by decide +kernel
theorem dX6_feed_94 : decode cX6_feed 94 = .ok (.goto 27, 3) := by decide +kernel
theorem dX6_feed_97 : decode cX6_feed 97 = .ok (.iload 7, 2) := by decide +kernel
theorem dX6_feed_99 : decode cX6_feed 99 = .ok (.iconst 2, 1) := by decide +kernel
theorem dX6_feed_100 : decode cX6_feed 100 = .ok (.if_icmp .ne 8, 3) := by decide +kernel
theorem dX6_feed_103 : decode cX6_feed 103 = .ok (.iload 4, 2) := by decide +kernel
theorem dX6_feed_105 : decode cX6_feed 105 = .ok (.goto 16, 3) := by decide +kernel
theorem dX6_feed_108 : decode cX6_feed 108 = .ok (.iload 7, 2) := by decide +kernel
theorem dX6_feed_110 : decode cX6_feed 110 = .ok (.iconst 3, 1) := by decide +kernel
theorem dX6_feed_111 : decode cX6_feed 111 = .ok (.if_icmp .ne 8, 3) := by decide +kernel
theorem dX6_feed_114 : decode cX6_feed 114 = .ok (.iload 5, 2) := by decide +kernel
theorem dX6_feed_116 : decode cX6_feed 116 = .ok (.goto 5, 3) := by decide +kernel
theorem dX6_feed_119 : decode cX6_feed 119 = .ok (.iload 6, 2) := by decide +kernel
theorem dX6_feed_121 : decode cX6_feed 121 = .ok (.invokevirtual 83, 3) := by decide +kernel
theorem dX6_feed_124 : decode cX6_feed 124 = .ok (.iinc 7 1, 3) := by decide +kernel
theorem dX6_feed_127 : decode cX6_feed 127 = .ok (.goto (-59), 3) := by decide +kernel
theorem dX6_feed_130 : decode cX6_feed 130 = .ok (.aload_n 0, 1) := by decide +kernel
theorem dX6_feed_131 : decode cX6_feed 131 = .ok (.getfield 34, 3) := by decide +kernel
theorem dX6_feed_134 : decode cX6_feed 134 = .ok (.invokevirtual 126, 3) := by decide +kernel
theorem dX6_feed_137 : decode cX6_feed 137 = .ok (.ireturn, 1) := by decide +kernel
theorem dX6_text_0 : decode cX6_text 0 = .ok (.aload_n 0, 1) := by decide +kernel
theorem dX6_text_1 : decode cX6_text 1 = .ok (.getfield 91, 3) := by decide +kernel
theorem dX6_text_4 : decode cX6_text 4 = .ok (.bipush 6, 2) := by decide +kernel
theorem dX6_text_6 : decode cX6_text 6 = .ok (.if_icmp .lt 6, 3) := by decide +kernel
theorem dX6_text_9 : decode cX6_text 9 = .ok (.bipush (-4), 2) := by decide +kernel
theorem dX6_text_11 : decode cX6_text 11 = .ok (.ireturn, 1) := by decide +kernel
theorem dX6_text_12 : decode cX6_text 12 = .ok (.aload_n 0, 1) := by decide +kernel
theorem dX6_text_13 : decode cX6_text 13 = .ok (.getfield 34, 3) := by decide +kernel
theorem dX6_text_16 : decode cX6_text 16 = .ok (.invokevirtual 87, 3) := by decide +kernel
theorem dX6_text_19 : decode cX6_text 19 = .ok (.astore_n 1, 1) := by decide +kernel
theorem dX6_text_20 : decode cX6_text 20 = .ok (.aload_n 1, 1) := by decide +kernel
theorem dX6_text_21 : decode cX6_text 21 = .ok (.ifnonnull 14, 3) := by decide +kernel
theorem dX6_text_24 : decode cX6_text 24 = .ok (.bipush (-100), 2) := by decide +kernel
theorem dX6_text_26 : decode cX6_text 26 = .ok (.aload_n 0, 1) := by decide +kernel
theorem dX6_text_27 : decode cX6_text 27 = .ok (.getfield 34, 3) := by decide +kernel
theorem dX6_text_30 : decode cX6_text 30 = .ok (.invokevirtual 135, 3) := by decide +kernel
theorem dX6_text_33 : decode cX6_text 33 = .ok (.isub, 1) := by decide +kernel
theorem dX6_text_34 : decode cX6_text 34 = .ok (.ireturn, 1) := by decide +kernel
theorem dX6_text_35 : decode cX6_text 35 = .ok (.aload_n 0, 1) := by decide +kernel
theorem dX6_text_36 : decode cX6_text 36 = .ok (.getfield 23, 3) := by decide +kernel
theorem dX6_text_39 : decode cX6_text 39 = .ok (.aload_n 0, 1) := by decide +kernel
theorem dX6_text_40 : decode cX6_text 40 = .ok (.getfield 91, 3) := by decide +kernel
theorem dX6_text_43 : decode cX6_text 43 = .ok (.aload_n 1, 1) := by decide +kernel
theorem dX6_text_44 : decode cX6_text 44 = .ok (.aastore, 1) := by decide +kernel
theorem dX6_text_45 : decode cX6_text 45 = .ok (.aload_n 0, 1) := by decide +kernel
theorem dX6_text_46 : decode cX6_text 46 = .ok (.dup, 1) := by decide +kernel
theorem dX6_text_47 : decode cX6_text 47 = .ok (.getfield 91, 3) := by decide +kernel
theorem dX6_text_50 : decode cX6_text 50 = .ok (.iconst 1, 1) := by decide +kernel
theorem dX6_text_51 : decode cX6_text 51 = .ok (.iadd, 1) := by decide +kernel
theorem dX6_text_52 : decode cX6_text 52 = .ok (.putfield 91, 3) := by decide +kernel
theorem dX6_text_55 : decode cX6_text 55 = .ok (.aload_n 0, 1) := by decide +kernel
theorem dX6_text_56 : decode cX6_text 56 = .ok (.getfield 91, 3) := by decide +kernel
theorem dX6_text_59 : decode cX6_text 59 = .ok (.iconst 1, 1) := by decide +kernel
theorem dX6_text_60 : decode cX6_text 60 = .ok (.isub, 1) := by decide +kernel
theorem dX6_text_61 : decode cX6_text 61 = .ok (.ireturn, 1) := by decide +kernel
theorem dX6_force_0 : decode cX6_force 0 = .ok (.iload_n 1, 1) := by decide +kernel
theorem dX6_force_1 : decode cX6_force 1 = .ok (.ifCond .lt 11, 3) := by decide +kernel
theorem dX6_force_4 : decode cX6_force 4 = .ok (.iload_n 1, 1) := by decide +kernel
theorem dX6_force_5 : decode cX6_force 5 = .ok (.aload_n 0, 1) := by decide +kernel
theorem dX6_force_6 : decode cX6_force 6 = .ok (.getfield 91, 3) := by decide +kernel
theorem dX6_force_9 : decode cX6_force 9 = .ok (.if_icmp .lt 6, 3) := by decide +kernel
theorem dX6_force_12 : decode cX6_force 12 = .ok (.bipush (-2), 2) := by decide +kernel
theorem dX6_force_14 : decode cX6_force 14 = .ok (.ireturn, 1) := by decide +kernel
theorem dX6_force_15 : decode cX6_force 15 = .ok (.aload_n 0, 1) := by decide +kernel
theorem dX6_force_16 : decode cX6_force 16 = .ok (.getfield 123, 3) := by decide +kernel
theorem dX6_force_19 : decode cX6_force 19 = .ok (.istore_n 2, 1) := by decide +kernel
theorem dX6_force_20 : decode cX6_force 20 = .ok (.aload_n 0, 1) := by decide +kernel
theorem dX6_force_21 : decode cX6_force 21 = .ok (.iload_n 1, 1) := by decide +kernel
theorem dX6_force_22 : decode cX6_force 22 = .ok (.putfield 123, 3) := by decide +kernel
theorem dX6_force_25 : decode cX6_force 25 = .ok (.iload_n 2, 1) := by decide +kernel
theorem dX6_force_26 : decode cX6_force 26 = .ok (.ireturn, 1) := by decide +kernel
theorem dX6_act_0 : decode cX6_act 0 = .ok (.iload_n 1, 1) := by decide +kernel
theorem dX6_act_1 : decode cX6_act 1 = .ok (.iload_n 2, 1) := by decide +kernel
theorem dX6_act_2 : decode cX6_act 2 = .ok (.iload_n 3, 1) := by decide +kernel
theorem dX6_act_3 : decode cX6_act 3 = .ok (.invokestatic 138, 3) := by decide +kernel
theorem dX6_act_6 : decode cX6_act 6 = .ok (.ifCond .ne 6, 3) := by decide +kernel
theorem dX6_act_9 : decode cX6_act 9 = .ok (.bipush (-2), 2) := by decide +kernel
theorem dX6_act_11 : decode cX6_act 11 = .ok (.ireturn, 1) := by decide +kernel
theorem dX6_act_12 : decode cX6_act 12 = .ok (.aload_n 0, 1) := by decide +kernel
theorem dX6_act_13 : decode cX6_act 13 = .ok (.getfield 120, 3) := by decide +kernel
theorem dX6_act_16 : decode cX6_act 16 = .ok (.bipush 12, 2) := by decide +kernel
theorem dX6_act_18 : decode cX6_act 18 = .ok (.if_icmp .lt 6, 3) := by decide +kernel
theorem dX6_act_21 : decode cX6_act 21 = .ok (.bipush (-4), 2) := by decide +kernel
theorem dX6_act_23 : decode cX6_act 23 = .ok (.ireturn, 1) := by decide +kernel
theorem dX6_act_24 : decode cX6_act 24 = .ok (.aload_n 0, 1) := by decide +kernel
theorem dX6_act_25 : decode cX6_act 25 = .ok (.dup, 1) := by decide +kernel
theorem dX6_act_26 : decode cX6_act 26 = .ok (.getfield 120, 3) := by decide +kernel
theorem dX6_act_29 : decode cX6_act 29 = .ok (.iconst 1, 1) := by decide +kernel
theorem dX6_act_30 : decode cX6_act 30 = .ok (.iadd, 1) := by decide +kernel
theorem dX6_act_31 : decode cX6_act 31 = .ok (.putfield 120, 3) := by decide +kernel
theorem dX6_act_34 : decode cX6_act 34 = .ok (.aload_n 0, 1) := by decide +kernel
theorem dX6_act_35 : decode cX6_act 35 = .ok (.aload_n 0, 1) := by decide +kernel
theorem dX6_act_36 : decode cX6_act 36 = .ok (.getfield 120, 3) := by decide +kernel
theorem dX6_act_39 : decode cX6_act 39 = .ok (.iconst 1, 1) := by decide +kernel
theorem dX6_act_40 : decode cX6_act 40 = .ok (.isub, 1) := by decide +kernel
theorem dX6_act_41 : decode cX6_act 41 = .ok (.invokevirtual 141, 3) := by decide +kernel
theorem dX6_act_44 : decode cX6_act 44 = .ok (.astore 4, 2) := by decide +kernel
theorem dX6_act_46 : decode cX6_act 46 = .ok (.aload 4, 2) := by decide +kernel
theorem dX6_act_48 : decode cX6_act 48 = .ok (.ifnull 11, 3) := by decide +kernel
theorem dX6_act_51 : decode cX6_act 51 = .ok (.aload 4, 2) := by decide +kernel
theorem dX6_act_53 : decode cX6_act 53 = .ok (.iload_n 1, 1) := by decide +kernel
theorem dX6_act_54 : decode cX6_act 54 = .ok (.iload_n 2, 1) := by decide +kernel
theorem dX6_act_55 : decode cX6_act 55 = .ok (.iload_n 3, 1) := by decide +kernel
theorem dX6_act_56 : decode cX6_act 56 = .ok (.invokevirtual 145, 3) := by decide +kernel
theorem dX6_act_59 : decode cX6_act 59 = .ok (.aload_n 0, 1) := by decide +kernel
theorem dX6_act_60 : decode cX6_act 60 = .ok (.getfield 120, 3) := by decide +kernel
theorem dX6_act_63 : decode cX6_act 63 = .ok (.iconst 1, 1) := by decide +kernel
theorem dX6_act_64 : decode cX6_act 64 = .ok (.isub, 1) := by decide +kernel
theorem dX6_act_65 : decode cX6_act 65 = .ok (.ireturn, 1) := by decide +kernel
theorem dX6_forget_0 : decode cX6_forget 0 = .ok (.aload_n 0, 1) := by decide +kernel
theorem dX6_forget_1 : decode cX6_forget 1 = .ok (.getfield 120, 3) := by decide +kernel
theorem dX6_forget_4 : decode cX6_forget 4 = .ok (.ifCond .gt 6, 3) := by decide +kernel
theorem dX6_forget_7 : decode cX6_forget 7 = .ok (.bipush (-3), 2) := by decide +kernel
theorem dX6_forget_9 : decode cX6_forget 9 = .ok (.ireturn, 1) := by decide +kernel
theorem dX6_forget_10 : decode cX6_forget 10 = .ok (.aload_n 0, 1) := by decide +kernel
theorem dX6_forget_11 : decode cX6_forget 11 = .ok (.dup, 1) := by decide +kernel
theorem dX6_forget_12 : decode cX6_forget 12 = .ok (.getfield 120, 3) := by decide +kernel
theorem dX6_forget_15 : decode cX6_forget 15 = .ok (.iconst 1, 1) := by decide +kernel
theorem dX6_forget_16 : decode cX6_forget 16 = .ok (.isub, 1) := by decide +kernel
theorem dX6_forget_17 : decode cX6_forget 17 = .ok (.putfield 120, 3) := by decide +kernel
theorem dX6_forget_20 : decode cX6_forget 20 = .ok (.aload_n 0, 1) := by decide +kernel
theorem dX6_forget_21 : decode cX6_forget 21 = .ok (.getfield 120, 3) := by decide +kernel
theorem dX6_forget_24 : decode cX6_forget 24 = .ok (.ireturn, 1) := by decide +kernel
theorem dX6_actTold_0 : decode cX6_actTold 0 = .ok (.aload_n 0, 1) := by decide +kernel
theorem dX6_actTold_1 : decode cX6_actTold 1 = .ok (.iload_n 1, 1) := by decide +kernel
theorem dX6_actTold_2 : decode cX6_actTold 2 = .ok (.invokevirtual 141, 3) := by decide +kernel
theorem dX6_actTold_5 : decode cX6_actTold 5 = .ok (.astore_n 3, 1) := by decide +kernel
theorem dX6_actTold_6 : decode cX6_actTold 6 = .ok (.aload_n 3, 1) := by decide +kernel
theorem dX6_actTold_7 : decode cX6_actTold 7 = .ok (.ifnonnull 6, 3) := by decide +kernel
theorem dX6_actTold_10 : decode cX6_actTold 10 = .ok (.bipush (-5), 2) := by decide +kernel
theorem dX6_actTold_12 : decode cX6_actTold 12 = .ok (.ireturn, 1) := by decide +kernel
theorem dX6_actTold_13 : decode cX6_actTold 13 = .ok (.iload_n 2, 1) := by decide +kernel
theorem dX6_actTold_14 : decode cX6_actTold 14 = .ok (.tableswitch 67 0 4 #[34, 39, 44, 49, 54], 34) := by decide +kernel
theorem dX6_actTold_48 : decode cX6_actTold 48 = .ok (.aload_n 3, 1) := by decide +kernel
theorem dX6_actTold_49 : decode cX6_actTold 49 = .ok (.getfield 149, 3) := by decide +kernel
theorem dX6_actTold_52 : decode cX6_actTold 52 = .ok (.ireturn, 1) := by decide +kernel
theorem dX6_actTold_53 : decode cX6_actTold 53 = .ok (.aload_n 3, 1) := by decide +kernel
theorem dX6_actTold_54 : decode cX6_actTold 54 = .ok (.getfield 152, 3) := by decide +kernel
theorem dX6_actTold_57 : decode cX6_actTold 57 = .ok (.ireturn, 1) := by decide +kernel
theorem dX6_actTold_58 : decode cX6_actTold 58 = .ok (.aload_n 3, 1) := by decide +kernel
theorem dX6_actTold_59 : decode cX6_actTold 59 = .ok (.getfield 155, 3) := by decide +kernel
theorem dX6_actTold_62 : decode cX6_actTold 62 = .ok (.ireturn, 1) := by decide +kernel
theorem dX6_actTold_63 : decode cX6_actTold 63 = .ok (.aload_n 3, 1) := by decide +kernel
theorem dX6_actTold_64 : decode cX6_actTold 64 = .ok (.invokevirtual 158, 3) := by decide +kernel
theorem dX6_actTold_67 : decode cX6_actTold 67 = .ok (.ireturn, 1) := by decide +kernel
theorem dX6_actTold_68 : decode cX6_actTold 68 = .ok (.aload_n 3, 1) := by decide +kernel
theorem dX6_actTold_69 : decode cX6_actTold 69 = .ok (.invokevirtual 161, 3) := by decide +kernel
theorem dX6_actTold_72 : decode cX6_actTold 72 = .ok (.ifCond .eq 7, 3) := by decide +kernel
theorem dX6_actTold_75 : decode cX6_actTold 75 = .ok (.iconst 1, 1) := by decide +kernel
theorem dX6_actTold_76 : decode cX6_actTold 76 = .ok (.goto 4, 3) := by decide +kernel
theorem dX6_actTold_79 : decode cX6_actTold 79 = .ok (.iconst 0, 1) := by decide +kernel
theorem dX6_actTold_80 : decode cX6_actTold 80 = .ok (.ireturn, 1) := by decide +kernel
theorem dX6_actTold_81 : decode cX6_actTold 81 = .ok (.bipush (-7), 2) := by decide +kernel
theorem dX6_actTold_83 : decode cX6_actTold 83 = .ok (.ireturn, 1) := by decide +kernel
theorem dX6_pot_0 : decode cX6_pot 0 = .ok (.aload_n 0, 1) := by decide +kernel
theorem dX6_pot_1 : decode cX6_pot 1 = .ok (.iload_n 1, 1) := by decide +kernel
theorem dX6_pot_2 : decode cX6_pot 2 = .ok (.invokevirtual 165, 3) := by decide +kernel
theorem dX6_pot_5 : decode cX6_pot 5 = .ok (.ifCond .ne 6, 3) := by decide +kernel
theorem dX6_pot_8 : decode cX6_pot 8 = .ok (.bipush (-5), 2) := by decide +kernel
theorem dX6_pot_10 : decode cX6_pot 10 = .ok (.ireturn, 1) := by decide +kernel
theorem dX6_pot_11 : decode cX6_pot 11 = .ok (.iload_n 2, 1) := by decide +kernel
theorem dX6_pot_12 : decode cX6_pot 12 = .ok (.invokestatic 168, 3) := by decide +kernel
theorem dX6_pot_15 : decode cX6_pot 15 = .ok (.ifCond .ne 6, 3) := by decide +kernel
theorem dX6_pot_18 : decode cX6_pot 18 = .ok (.bipush (-7), 2) := by decide +kernel
theorem dX6_pot_20 : decode cX6_pot 20 = .ok (.ireturn, 1) := by decide +kernel
theorem dX6_pot_21 : decode cX6_pot 21 = .ok (.aload_n 0, 1) := by decide +kernel
theorem dX6_pot_22 : decode cX6_pot 22 = .ok (.iload_n 1, 1) := by decide +kernel
theorem dX6_pot_23 : decode cX6_pot 23 = .ok (.invokevirtual 171, 3) := by decide +kernel
theorem dX6_pot_26 : decode cX6_pot 26 = .ok (.aload_n 0, 1) := by decide +kernel
theorem dX6_pot_27 : decode cX6_pot 27 = .ok (.getfield 57, 3) := by decide +kernel
theorem dX6_pot_30 : decode cX6_pot 30 = .ok (.iload_n 2, 1) := by decide +kernel
theorem dX6_pot_31 : decode cX6_pot 31 = .ok (.invokevirtual 174, 3) := by decide +kernel
theorem dX6_pot_34 : decode cX6_pot 34 = .ok (.ireturn, 1) := by decide +kernel
theorem dX6_splits_0 : decode cX6_splits 0 = .ok (.iload_n 1, 1) := by decide +kernel
theorem dX6_splits_1 : decode cX6_splits 1 = .ok (.invokestatic 175, 3) := by decide +kernel
theorem dX6_splits_4 : decode cX6_splits 4 = .ok (.ifCond .ne 6, 3) := by decide +kernel
theorem dX6_splits_7 : decode cX6_splits 7 = .ok (.bipush (-2), 2) := by decide +kernel
theorem dX6_splits_9 : decode cX6_splits 9 = .ok (.ireturn, 1) := by decide +kernel
theorem dX6_splits_10 : decode cX6_splits 10 = .ok (.iload_n 1, 1) := by decide +kernel
theorem dX6_splits_11 : decode cX6_splits 11 = .ok (.ifCond .ne 10, 3) := by decide +kernel
theorem dX6_splits_14 : decode cX6_splits 14 = .ok (.aload_n 0, 1) := by decide +kernel
theorem dX6_splits_15 : decode cX6_splits 15 = .ok (.invokevirtual 178, 3) := by decide +kernel
theorem dX6_splits_18 : decode cX6_splits 18 = .ok (.goto 7, 3) := by decide +kernel
theorem dX6_splits_21 : decode cX6_splits 21 = .ok (.aload_n 0, 1) := by decide +kernel
theorem dX6_splits_22 : decode cX6_splits 22 = .ok (.invokevirtual 181, 3) := by decide +kernel
theorem dX6_splits_25 : decode cX6_splits 25 = .ok (.ireturn, 1) := by decide +kernel
theorem dX6_hour_0 : decode cX6_hour 0 = .ok (.aload_n 0, 1) := by decide +kernel
theorem dX6_hour_1 : decode cX6_hour 1 = .ok (.iload_n 1, 1) := by decide +kernel
theorem dX6_hour_2 : decode cX6_hour 2 = .ok (.invokevirtual 165, 3) := by decide +kernel
theorem dX6_hour_5 : decode cX6_hour 5 = .ok (.ifCond .ne 6, 3) := by decide +kernel
theorem dX6_hour_8 : decode cX6_hour 8 = .ok (.bipush (-5), 2) := by decide +kernel
theorem dX6_hour_10 : decode cX6_hour 10 = .ok (.ireturn, 1) := by decide +kernel
theorem dX6_hour_11 : decode cX6_hour 11 = .ok (.iload_n 2, 1) := by decide +kernel
theorem dX6_hour_12 : decode cX6_hour 12 = .ok (.invokestatic 175, 3) := by decide +kernel
theorem dX6_hour_15 : decode cX6_hour 15 = .ok (.ifCond .ne 6, 3) := by decide +kernel
theorem dX6_hour_18 : decode cX6_hour 18 = .ok (.bipush (-7), 2) := by decide +kernel
theorem dX6_hour_20 : decode cX6_hour 20 = .ok (.ireturn, 1) := by decide +kernel
theorem dX6_hour_21 : decode cX6_hour 21 = .ok (.aload_n 0, 1) := by decide +kernel
theorem dX6_hour_22 : decode cX6_hour 22 = .ok (.iload_n 1, 1) := by decide +kernel
theorem dX6_hour_23 : decode cX6_hour 23 = .ok (.invokevirtual 171, 3) := by decide +kernel
theorem dX6_hour_26 : decode cX6_hour 26 = .ok (.aload_n 0, 1) := by decide +kernel
theorem dX6_hour_27 : decode cX6_hour 27 = .ok (.getfield 57, 3) := by decide +kernel
theorem dX6_hour_30 : decode cX6_hour 30 = .ok (.invokevirtual 184, 3) := by decide +kernel
theorem dX6_hour_33 : decode cX6_hour 33 = .ok (.ifCond .ne 5, 3) := by decide +kernel
theorem dX6_hour_36 : decode cX6_hour 36 = .ok (.iconst 0, 1) := by decide +kernel
theorem dX6_hour_37 : decode cX6_hour 37 = .ok (.ireturn, 1) := by decide +kernel
theorem dX6_hour_38 : decode cX6_hour 38 = .ok (.iconst 0, 1) := by decide +kernel
theorem dX6_hour_39 : decode cX6_hour 39 = .ok (.istore_n 3, 1) := by decide +kernel
theorem dX6_hour_40 : decode cX6_hour 40 = .ok (.iload_n 3, 1) := by decide +kernel
theorem dX6_hour_41 : decode cX6_hour 41 = .ok (.bipush 60, 2) := by decide +kernel
theorem dX6_hour_43 : decode cX6_hour 43 = .ok (.if_icmp .ge 38, 3) := by decide +kernel
theorem dX6_hour_46 : decode cX6_hour 46 = .ok (.aload_n 0, 1) := by decide +kernel
theorem dX6_hour_47 : decode cX6_hour 47 = .ok (.getfield 57, 3) := by decide +kernel
theorem dX6_hour_50 : decode cX6_hour 50 = .ok (.iload_n 2, 1) := by decide +kernel
theorem dX6_hour_51 : decode cX6_hour 51 = .ok (.iconst 1, 1) := by decide +kernel
theorem dX6_hour_52 : decode cX6_hour 52 = .ok (.if_icmp .ne 7, 3) := by decide +kernel
theorem dX6_hour_55 : decode cX6_hour 55 = .ok (.iconst 1, 1) := by decide +kernel
theorem dX6_hour_56 : decode cX6_hour 56 = .ok (.goto 4, 3) := by decide +kernel
theorem dX6_hour_59 : decode cX6_hour 59 = .ok (.iconst 0, 1) := by decide +kernel
theorem dX6_hour_60 : decode cX6_hour 60 = .ok (.invokevirtual 187, 3) := by decide +kernel
theorem dX6_hour_63 : decode cX6_hour 63 = .ok (.aload_n 0, 1) := by decide +kernel
theorem dX6_hour_64 : decode cX6_hour 64 = .ok (.getfield 57, 3) := by decide +kernel
theorem dX6_hour_67 : decode cX6_hour 67 = .ok (.invokevirtual 184, 3) := by decide +kernel
theorem dX6_hour_70 : decode cX6_hour 70 = .ok (.ifCond .ne 5, 3) := by decide +kernel
theorem dX6_hour_73 : decode cX6_hour 73 = .ok (.iload_n 3, 1) := by decide +kernel
theorem dX6_hour_74 : decode cX6_hour 74 = .ok (.ireturn, 1) := by decide +kernel
theorem dX6_hour_75 : decode cX6_hour 75 = .ok (.iinc 3 1, 3) := by decide +kernel
theorem dX6_hour_78 : decode cX6_hour 78 = .ok (.goto (-38), 3) := by decide +kernel
theorem dX6_hour_81 : decode cX6_hour 81 = .ok (.bipush 60, 2) := by decide +kernel
theorem dX6_hour_83 : decode cX6_hour 83 = .ok (.ireturn, 1) := by decide +kernel
theorem dX6_flames_0 : decode cX6_flames 0 = .ok (.iconst 0, 1) := by decide +kernel
theorem dX6_flames_1 : decode cX6_flames 1 = .ok (.istore_n 1, 1) := by decide +kernel
theorem dX6_flames_2 : decode cX6_flames 2 = .ok (.iconst 0, 1) := by decide +kernel
theorem dX6_flames_3 : decode cX6_flames 3 = .ok (.istore_n 2, 1) := by decide +kernel
theorem dX6_flames_4 : decode cX6_flames 4 = .ok (.iload_n 2, 1) := by decide +kernel
theorem dX6_flames_5 : decode cX6_flames 5 = .ok (.getstatic 117, 3) := by decide +kernel
theorem dX6_flames_8 : decode cX6_flames 8 = .ok (.iconst 0, 1) := by decide +kernel
theorem dX6_flames_9 : decode cX6_flames 9 = .ok (.iaload, 1) := by decide +kernel
theorem dX6_flames_10 : decode cX6_flames 10 = .ok (.if_icmp .gt 35, 3) := by decide +kernel
theorem dX6_flames_13 : decode cX6_flames 13 = .ok (.aload_n 0, 1) := by decide +kernel
theorem dX6_flames_14 : decode cX6_flames 14 = .ok (.iload_n 2, 1) := by decide +kernel
theorem dX6_flames_15 : decode cX6_flames 15 = .ok (.aload_n 0, 1) := by decide +kernel
theorem dX6_flames_16 : decode cX6_flames 16 = .ok (.getfield 27, 3) := by decide +kernel
theorem dX6_flames_19 : decode cX6_flames 19 = .ok (.iconst 1, 1) := by decide +kernel
theorem dX6_flames_20 : decode cX6_flames 20 = .ok (.iaload, 1) := by decide +kernel
theorem dX6_flames_21 : decode cX6_flames 21 = .ok (.aload_n 0, 1) := by decide +kernel
theorem dX6_flames_22 : decode cX6_flames 22 = .ok (.getfield 27, 3) := by decide +kernel
theorem dX6_flames_25 : decode cX6_flames 25 = .ok (.iconst 2, 1) := by decide +kernel
theorem dX6_flames_26 : decode cX6_flames 26 = .ok (.iaload, 1) := by decide +kernel
theorem dX6_flames_27 : decode cX6_flames 27 = .ok (.invokevirtual 191, 3) := by decide +kernel
theorem dX6_flames_30 : decode cX6_flames 30 = .ok (.ifCond .eq 9, 3) := by decide +kernel
theorem dX6_flames_33 : decode cX6_flames 33 = .ok (.iload_n 1, 1) := by decide +kernel
theorem dX6_flames_34 : decode cX6_flames 34 = .ok (.iconst 1, 1) := by decide +kernel
theorem dX6_flames_35 : decode cX6_flames 35 = .ok (.iload_n 2, 1) := by decide +kernel
theorem dX6_flames_36 : decode cX6_flames 36 = .ok (.ishl, 1) := by decide +kernel
theorem dX6_flames_37 : decode cX6_flames 37 = .ok (.ior, 1) := by decide +kernel
theorem dX6_flames_38 : decode cX6_flames 38 = .ok (.istore_n 1, 1) := by decide +kernel
theorem dX6_flames_39 : decode cX6_flames 39 = .ok (.iinc 2 1, 3) := by decide +kernel
theorem dX6_flames_42 : decode cX6_flames 42 = .ok (.goto (-38), 3) := by decide +kernel
theorem dX6_flames_45 : decode cX6_flames 45 = .ok (.iload_n 1, 1) := by decide +kernel
theorem dX6_flames_46 : decode cX6_flames 46 = .ok (.ireturn, 1) := by decide +kernel
theorem dX6_sours_0 : decode cX6_sours 0 = .ok (.iconst 0, 1) := by decide +kernel
theorem dX6_sours_1 : decode cX6_sours 1 = .ok (.istore_n 1, 1) := by decide +kernel
theorem dX6_sours_2 : decode cX6_sours 2 = .ok (.iconst 0, 1) := by decide +kernel
theorem dX6_sours_3 : decode cX6_sours 3 = .ok (.istore_n 2, 1) := by decide +kernel
theorem dX6_sours_4 : decode cX6_sours 4 = .ok (.iload_n 2, 1) := by decide +kernel
theorem dX6_sours_5 : decode cX6_sours 5 = .ok (.getstatic 117, 3) := by decide +kernel
theorem dX6_sours_8 : decode cX6_sours 8 = .ok (.iconst 2, 1) := by decide +kernel
theorem dX6_sours_9 : decode cX6_sours 9 = .ok (.iaload, 1) := by decide +kernel
theorem dX6_sours_10 : decode cX6_sours 10 = .ok (.if_icmp .gt 35, 3) := by decide +kernel
theorem dX6_sours_13 : decode cX6_sours 13 = .ok (.aload_n 0, 1) := by decide +kernel
theorem dX6_sours_14 : decode cX6_sours 14 = .ok (.aload_n 0, 1) := by decide +kernel
theorem dX6_sours_15 : decode cX6_sours 15 = .ok (.getfield 27, 3) := by decide +kernel
theorem dX6_sours_18 : decode cX6_sours 18 = .ok (.iconst 0, 1) := by decide +kernel
theorem dX6_sours_19 : decode cX6_sours 19 = .ok (.iaload, 1) := by decide +kernel
theorem dX6_sours_20 : decode cX6_sours 20 = .ok (.aload_n 0, 1) := by decide +kernel
theorem dX6_sours_21 : decode cX6_sours 21 = .ok (.getfield 27, 3) := by decide +kernel
theorem dX6_sours_24 : decode cX6_sours 24 = .ok (.iconst 1, 1) := by decide +kernel
theorem dX6_sours_25 : decode cX6_sours 25 = .ok (.iaload, 1) := by decide +kernel
theorem dX6_sours_26 : decode cX6_sours 26 = .ok (.iload_n 2, 1) := by decide +kernel
theorem dX6_sours_27 : decode cX6_sours 27 = .ok (.invokevirtual 191, 3) := by decide +kernel
theorem dX6_sours_30 : decode cX6_sours 30 = .ok (.ifCond .eq 9, 3) := by decide +kernel
theorem dX6_sours_33 : decode cX6_sours 33 = .ok (.iload_n 1, 1) := by decide +kernel
theorem dX6_sours_34 : decode cX6_sours 34 = .ok (.iconst 1, 1) := by decide +kernel
theorem dX6_sours_35 : decode cX6_sours 35 = .ok (.iload_n 2, 1) := by decide +kernel
theorem dX6_sours_36 : decode cX6_sours 36 = .ok (.ishl, 1) := by decide +kernel
theorem dX6_sours_37 : decode cX6_sours 37 = .ok (.ior, 1) := by decide +kernel
theorem dX6_sours_38 : decode cX6_sours 38 = .ok (.istore_n 1, 1) := by decide +kernel
theorem dX6_sours_39 : decode cX6_sours 39 = .ok (.iinc 2 1, 3) := by decide +kernel
theorem dX6_sours_42 : decode cX6_sours 42 = .ok (.goto (-38), 3) := by decide +kernel
theorem dX6_sours_45 : decode cX6_sours 45 = .ok (.iload_n 1, 1) := by decide +kernel
theorem dX6_sours_46 : decode cX6_sours 46 = .ok (.ireturn, 1) := by decide +kernel
theorem dX6_region_0 : decode cX6_region 0 = .ok (.iconst 0, 1) := by decide +kernel
theorem dX6_region_1 : decode cX6_region 1 = .ok (.istore_n 1, 1) := by decide +kernel
theorem dX6_region_2 : decode cX6_region 2 = .ok (.iconst 0, 1) := by decide +kernel
theorem dX6_region_3 : decode cX6_region 3 = .ok (.istore_n 2, 1) := by decide +kernel
theorem dX6_region_4 : decode cX6_region 4 = .ok (.iload_n 2, 1) := by decide +kernel
theorem dX6_region_5 : decode cX6_region 5 = .ok (.getstatic 117, 3) := by decide +kernel
theorem dX6_region_8 : decode cX6_region 8 = .ok (.iconst 0, 1) := by decide +kernel
theorem dX6_region_9 : decode cX6_region 9 = .ok (.iaload, 1) := by decide +kernel
theorem dX6_region_10 : decode cX6_region 10 = .ok (.if_icmp .gt 44, 3) := by decide +kernel
theorem dX6_region_13 : decode cX6_region 13 = .ok (.iconst 0, 1) := by decide +kernel
theorem dX6_region_14 : decode cX6_region 14 = .ok (.istore_n 3, 1) := by decide +kernel
theorem dX6_region_15 : decode cX6_region 15 = .ok (.iload_n 3, 1) := by decide +kernel
theorem dX6_region_16 : decode cX6_region 16 = .ok (.getstatic 117, 3) := by decide +kernel
theorem dX6_region_19 : decode cX6_region 19 = .ok (.iconst 2, 1) := by decide +kernel
theorem dX6_region_20 : decode cX6_region 20 = .ok (.iaload, 1) := by decide +kernel
theorem dX6_region_21 : decode cX6_region 21 = .ok (.if_icmp .gt 27, 3) := by decide +kernel
theorem dX6_region_24 : decode cX6_region 24 = .ok (.aload_n 0, 1) := by decide +kernel
theorem dX6_region_25 : decode cX6_region 25 = .ok (.iload_n 2, 1) := by decide +kernel
theorem dX6_region_26 : decode cX6_region 26 = .ok (.aload_n 0, 1) := by decide +kernel
theorem dX6_region_27 : decode cX6_region 27 = .ok (.getfield 27, 3) := by decide +kernel
theorem dX6_region_30 : decode cX6_region 30 = .ok (.iconst 1, 1) := by decide +kernel
theorem dX6_region_31 : decode cX6_region 31 = .ok (.iaload, 1) := by decide +kernel
theorem dX6_region_32 : decode cX6_region 32 = .ok (.iload_n 3, 1) := by decide +kernel
theorem dX6_region_33 : decode cX6_region 33 = .ok (.invokevirtual 191, 3) := by decide +kernel
theorem dX6_region_36 : decode cX6_region 36 = .ok (.ifCond .eq 6, 3) := by decide +kernel
theorem dX6_region_39 : decode cX6_region 39 = .ok (.iinc 1 1, 3) := by decide +kernel
theorem dX6_region_42 : decode cX6_region 42 = .ok (.iinc 3 1, 3) := by decide +kernel
theorem dX6_region_45 : decode cX6_region 45 = .ok (.goto (-30), 3) := by decide +kernel
theorem dX6_region_48 : decode cX6_region 48 = .ok (.iinc 2 1, 3) := by decide +kernel
theorem dX6_region_51 : decode cX6_region 51 = .ok (.goto (-47), 3) := by decide +kernel
theorem dX6_region_54 : decode cX6_region 54 = .ok (.iload_n 1, 1) := by decide +kernel
theorem dX6_region_55 : decode cX6_region 55 = .ok (.ireturn, 1) := by decide +kernel
theorem dX6_most_0 : decode cX6_most 0 = .ok (.iconst (-1), 1) := by decide +kernel
theorem dX6_most_1 : decode cX6_most 1 = .ok (.istore_n 1, 1) := by decide +kernel
theorem dX6_most_2 : decode cX6_most 2 = .ok (.aload_n 0, 1) := by decide +kernel
theorem dX6_most_3 : decode cX6_most 3 = .ok (.getfield 27, 3) := by decide +kernel
theorem dX6_most_6 : decode cX6_most 6 = .ok (.iconst 1, 1) := by decide +kernel
theorem dX6_most_7 : decode cX6_most 7 = .ok (.iaload, 1) := by decide +kernel
theorem dX6_most_8 : decode cX6_most 8 = .ok (.istore_n 2, 1) := by decide +kernel
theorem dX6_most_9 : decode cX6_most 9 = .ok (.iload_n 2, 1) := by decide +kernel
theorem dX6_most_10 : decode cX6_most 10 = .ok (.getstatic 117, 3) := by decide +kernel
theorem dX6_most_13 : decode cX6_most 13 = .ok (.iconst 1, 1) := by decide +kernel
theorem dX6_most_14 : decode cX6_most 14 = .ok (.iaload, 1) := by decide +kernel
theorem dX6_most_15 : decode cX6_most 15 = .ok (.if_icmp .gt 33, 3) := by decide +kernel
theorem dX6_most_18 : decode cX6_most 18 = .ok (.aload_n 0, 1) := by decide +kernel
theorem dX6_most_19 : decode cX6_most 19 = .ok (.aload_n 0, 1) := by decide +kernel
theorem dX6_most_20 : decode cX6_most 20 = .ok (.getfield 27, 3) := by decide +kernel
theorem dX6_most_23 : decode cX6_most 23 = .ok (.iconst 0, 1) := by decide +kernel
theorem dX6_most_24 : decode cX6_most 24 = .ok (.iaload, 1) := by decide +kernel
theorem dX6_most_25 : decode cX6_most 25 = .ok (.iload_n 2, 1) := by decide +kernel
theorem dX6_most_26 : decode cX6_most 26 = .ok (.aload_n 0, 1) := by decide +kernel
theorem dX6_most_27 : decode cX6_most 27 = .ok (.getfield 27, 3) := by decide +kernel
theorem dX6_most_30 : decode cX6_most 30 = .ok (.iconst 2, 1) := by decide +kernel
theorem dX6_most_31 : decode cX6_most 31 = .ok (.iaload, 1) := by decide +kernel
theorem dX6_most_32 : decode cX6_most 32 = .ok (.invokevirtual 191, 3) := by decide +kernel
theorem dX6_most_35 : decode cX6_most 35 = .ok (.ifCond .ne 5, 3) := by decide +kernel
theorem dX6_most_38 : decode cX6_most 38 = .ok (.iload_n 1, 1) := by decide +kernel
theorem dX6_most_39 : decode cX6_most 39 = .ok (.ireturn, 1) := by decide +kernel
theorem dX6_most_40 : decode cX6_most 40 = .ok (.iload_n 2, 1) := by decide +kernel
theorem dX6_most_41 : decode cX6_most 41 = .ok (.istore_n 1, 1) := by decide +kernel
theorem dX6_most_42 : decode cX6_most 42 = .ok (.iinc 2 1, 3) := by decide +kernel
theorem dX6_most_45 : decode cX6_most 45 = .ok (.goto (-36), 3) := by decide +kernel
theorem dX6_most_48 : decode cX6_most 48 = .ok (.iload_n 1, 1) := by decide +kernel
theorem dX6_most_49 : decode cX6_most 49 = .ok (.ireturn, 1) := by decide +kernel
theorem dX6_odds_0 : decode cX6_odds 0 = .ok (.iload_n 1, 1) := by decide +kernel
theorem dX6_odds_1 : decode cX6_odds 1 = .ok (.ifCond .lt 15, 3) := by decide +kernel
theorem dX6_odds_4 : decode cX6_odds 4 = .ok (.iload_n 1, 1) := by decide +kernel
theorem dX6_odds_5 : decode cX6_odds 5 = .ok (.iconst 5, 1) := by decide +kernel
theorem dX6_odds_6 : decode cX6_odds 6 = .ok (.if_icmp .gt 10, 3) := by decide +kernel
theorem dX6_odds_9 : decode cX6_odds 9 = .ok (.iload_n 2, 1) := by decide +kernel
theorem dX6_odds_10 : decode cX6_odds 10 = .ok (.invokestatic 175, 3) := by decide +kernel
theorem dX6_odds_13 : decode cX6_odds 13 = .ok (.ifCond .ne 7, 3) := by decide +kernel
theorem dX6_odds_16 : decode cX6_odds 16 = .ok (.ldc2_w 194, 3) := by decide +kernel
theorem dX6_odds_19 : decode cX6_odds 19 = .ok (.lreturn, 1) := by decide +kernel
theorem dX6_odds_20 : decode cX6_odds 20 = .ok (.iconst 0, 1) := by decide +kernel
theorem dX6_odds_21 : decode cX6_odds 21 = .ok (.istore_n 3, 1) := by decide +kernel
theorem dX6_odds_22 : decode cX6_odds 22 = .ok (.iload_n 1, 1) := by decide +kernel
theorem dX6_odds_23 : decode cX6_odds 23 = .ok (.ineg, 1) := by decide +kernel
theorem dX6_odds_24 : decode cX6_odds 24 = .ok (.istore 4, 2) := by decide +kernel
theorem dX6_odds_26 : decode cX6_odds 26 = .ok (.iload 4, 2) := by decide +kernel
theorem dX6_odds_28 : decode cX6_odds 28 = .ok (.iload_n 1, 1) := by decide +kernel
theorem dX6_odds_29 : decode cX6_odds 29 = .ok (.if_icmp .gt 56, 3) := by decide +kernel
theorem dX6_odds_32 : decode cX6_odds 32 = .ok (.iconst 0, 1) := by decide +kernel
theorem dX6_odds_33 : decode cX6_odds 33 = .ok (.getstatic 117, 3) := by decide +kernel
theorem dX6_odds_36 : decode cX6_odds 36 = .ok (.iconst 0, 1) := by decide +kernel
theorem dX6_odds_37 : decode cX6_odds 37 = .ok (.iaload, 1) := by decide +kernel
theorem dX6_odds_38 : decode cX6_odds 38 = .ok (.aload_n 0, 1) := by decide +kernel
theorem dX6_odds_39 : decode cX6_odds 39 = .ok (.getfield 27, 3) := by decide +kernel
theorem dX6_odds_42 : decode cX6_odds 42 = .ok (.iconst 0, 1) := by decide +kernel
theorem dX6_odds_43 : decode cX6_odds 43 = .ok (.iaload, 1) := by decide +kernel
theorem dX6_odds_44 : decode cX6_odds 44 = .ok (.iload 4, 2) := by decide +kernel
theorem dX6_odds_46 : decode cX6_odds 46 = .ok (.iadd, 1) := by decide +kernel
theorem dX6_odds_47 : decode cX6_odds 47 = .ok (.invokestatic 196, 3) := by decide +kernel
theorem dX6_odds_50 : decode cX6_odds 50 = .ok (.invokestatic 202, 3) := by decide +kernel
theorem dX6_odds_53 : decode cX6_odds 53 = .ok (.istore 5, 2) := by decide +kernel
theorem dX6_odds_55 : decode cX6_odds 55 = .ok (.aload_n 0, 1) := by decide +kernel
theorem dX6_odds_56 : decode cX6_odds 56 = .ok (.iload 5, 2) := by decide +kernel
theorem dX6_odds_58 : decode cX6_odds 58 = .ok (.aload_n 0, 1) := by decide +kernel
theorem dX6_odds_59 : decode cX6_odds 59 = .ok (.getfield 27, 3) := by decide +kernel
theorem dX6_odds_62 : decode cX6_odds 62 = .ok (.iconst 1, 1) := by decide +kernel
theorem dX6_odds_63 : decode cX6_odds 63 = .ok (.iaload, 1) := by decide +kernel
theorem dX6_odds_64 : decode cX6_odds 64 = .ok (.aload_n 0, 1) := by decide +kernel
theorem dX6_odds_65 : decode cX6_odds 65 = .ok (.getfield 27, 3) := by decide +kernel
theorem dX6_odds_68 : decode cX6_odds 68 = .ok (.iconst 2, 1) := by decide +kernel
theorem dX6_odds_69 : decode cX6_odds 69 = .ok (.iaload, 1) := by decide +kernel
theorem dX6_odds_70 : decode cX6_odds 70 = .ok (.invokevirtual 191, 3) := by decide +kernel
theorem dX6_odds_73 : decode cX6_odds 73 = .ok (.ifCond .eq 6, 3) := by decide +kernel
theorem dX6_odds_76 : decode cX6_odds 76 = .ok (.iinc 3 1, 3) := by decide +kernel
theorem dX6_odds_79 : decode cX6_odds 79 = .ok (.iinc 4 1, 3) := by decide +kernel
theorem dX6_odds_82 : decode cX6_odds 82 = .ok (.goto (-56), 3) := by decide +kernel
theorem dX6_odds_85 : decode cX6_odds 85 = .ok (.iload_n 3, 1) := by decide +kernel
theorem dX6_odds_86 : decode cX6_odds 86 = .ok (.iconst 2, 1) := by decide +kernel
theorem dX6_odds_87 : decode cX6_odds 87 = .ok (.iload_n 1, 1) := by decide +kernel
theorem dX6_odds_88 : decode cX6_odds 88 = .ok (.imul, 1) := by decide +kernel
theorem dX6_odds_89 : decode cX6_odds 89 = .ok (.iconst 1, 1) := by decide +kernel
theorem dX6_odds_90 : decode cX6_odds 90 = .ok (.iadd, 1) := by decide +kernel
theorem dX6_odds_91 : decode cX6_odds 91 = .ok (.iload_n 2, 1) := by decide +kernel
theorem dX6_odds_92 : decode cX6_odds 92 = .ok (.invokestatic 205, 3) := by decide +kernel
theorem dX6_odds_95 : decode cX6_odds 95 = .ok (.i2l, 1) := by decide +kernel
theorem dX6_odds_96 : decode cX6_odds 96 = .ok (.lreturn, 1) := by decide +kernel
theorem dX6_save_0 : decode cX6_save 0 = .ok (.aload_n 0, 1) := by decide +kernel
theorem dX6_save_1 : decode cX6_save 1 = .ok (.iload_n 1, 1) := by decide +kernel
theorem dX6_save_2 : decode cX6_save 2 = .ok (.invokevirtual 165, 3) := by decide +kernel
theorem dX6_save_5 : decode cX6_save 5 = .ok (.ifCond .ne 6, 3) := by decide +kernel
theorem dX6_save_8 : decode cX6_save 8 = .ok (.bipush (-5), 2) := by decide +kernel
theorem dX6_save_10 : decode cX6_save 10 = .ok (.ireturn, 1) := by decide +kernel
theorem dX6_save_11 : decode cX6_save 11 = .ok (.iload_n 2, 1) := by decide +kernel
theorem dX6_save_12 : decode cX6_save 12 = .ok (.ifCond .lt 18, 3) := by decide +kernel
theorem dX6_save_15 : decode cX6_save 15 = .ok (.iload_n 2, 1) := by decide +kernel
theorem dX6_save_16 : decode cX6_save 16 = .ok (.bipush 99, 2) := by decide +kernel
theorem dX6_save_18 : decode cX6_save 18 = .ok (.if_icmp .gt 12, 3) := by decide +kernel
theorem dX6_save_21 : decode cX6_save 21 = .ok (.iload_n 3, 1) := by decide +kernel
theorem dX6_save_22 : decode cX6_save 22 = .ok (.ifCond .lt 8, 3) := by decide +kernel
theorem dX6_save_25 : decode cX6_save 25 = .ok (.iload_n 3, 1) := by decide +kernel
theorem dX6_save_26 : decode cX6_save 26 = .ok (.iconst 2, 1) := by decide +kernel
theorem dX6_save_27 : decode cX6_save 27 = .ok (.if_icmp .le 6, 3) := by decide +kernel
theorem dX6_save_30 : decode cX6_save 30 = .ok (.bipush (-7), 2) := by decide +kernel
theorem dX6_save_32 : decode cX6_save 32 = .ok (.ireturn, 1) := by decide +kernel
theorem dX6_save_33 : decode cX6_save 33 = .ok (.aload_n 0, 1) := by decide +kernel
theorem dX6_save_34 : decode cX6_save 34 = .ok (.iload_n 1, 1) := by decide +kernel
theorem dX6_save_35 : decode cX6_save 35 = .ok (.invokevirtual 171, 3) := by decide +kernel
theorem dX6_save_38 : decode cX6_save 38 = .ok (.iconst (-1), 1) := by decide +kernel
theorem dX6_save_39 : decode cX6_save 39 = .ok (.istore 4, 2) := by decide +kernel
theorem dX6_save_41 : decode cX6_save 41 = .ok (.iconst 0, 1) := by decide +kernel
theorem dX6_save_42 : decode cX6_save 42 = .ok (.istore 5, 2) := by decide +kernel
theorem dX6_save_44 : decode cX6_save 44 = .ok (.iconst 0, 1) := by decide +kernel
theorem dX6_save_45 : decode cX6_save 45 = .ok (.istore 6, 2) := by decide +kernel
theorem dX6_save_47 : decode cX6_save 47 = .ok (.iconst 0, 1) := by decide +kernel
theorem dX6_save_48 : decode cX6_save 48 = .ok (.istore 7, 2) := by decide +kernel
theorem dX6_save_50 : decode cX6_save 50 = .ok (.iload 7, 2) := by decide +kernel
theorem dX6_save_52 : decode cX6_save 52 = .ok (.bipush 6, 2) := by decide +kernel
theorem dX6_save_54 : decode cX6_save 54 = .ok (.if_icmp .ge 99, 3) := by decide +kernel
theorem dX6_save_57 : decode cX6_save 57 = .ok (.aload_n 0, 1) := by decide +kernel
theorem dX6_save_58 : decode cX6_save 58 = .ok (.getfield 65, 3) := by decide +kernel
theorem dX6_save_61 : decode cX6_save 61 = .ok (.iload 7, 2) := by decide +kernel
theorem dX6_save_63 : decode cX6_save 63 = .ok (.iload_n 2, 1) := by decide +kernel
theorem dX6_save_64 : decode cX6_save 64 = .ok (.bipush 10, 2) := by decide +kernel
theorem dX6_save_66 : decode cX6_save 66 = .ok (.idiv, 1) := by decide +kernel
theorem dX6_save_67 : decode cX6_save 67 = .ok (.iload_n 2, 1) := by decide +kernel
theorem dX6_save_68 : decode cX6_save 68 = .ok (.bipush 10, 2) := by decide +kernel
theorem dX6_save_70 : decode cX6_save 70 = .ok (.irem, 1) := by decide +kernel
theorem dX6_save_71 : decode cX6_save 71 = .ok (.invokevirtual 145, 3) := by decide +kernel
theorem dX6_save_74 : decode cX6_save 74 = .ok (.aload_n 0, 1) := by decide +kernel
theorem dX6_save_75 : decode cX6_save 75 = .ok (.getfield 61, 3) := by decide +kernel
theorem dX6_save_78 : decode cX6_save 78 = .ok (.aload_n 0, 1) := by decide +kernel
theorem dX6_save_79 : decode cX6_save 79 = .ok (.getfield 57, 3) := by decide +kernel
theorem dX6_save_82 : decode cX6_save 82 = .ok (.invokevirtual 209, 3) := by decide +kernel
theorem dX6_save_85 : decode cX6_save 85 = .ok (.aload_n 0, 1) := by decide +kernel
theorem dX6_save_86 : decode cX6_save 86 = .ok (.getfield 61, 3) := by decide +kernel
theorem dX6_save_89 : decode cX6_save 89 = .ok (.aload_n 0, 1) := by decide +kernel
theorem dX6_save_90 : decode cX6_save 90 = .ok (.getfield 65, 3) := by decide +kernel
theorem dX6_save_93 : decode cX6_save 93 = .ok (.aload_n 0, 1) := by decide +kernel
theorem dX6_save_94 : decode cX6_save 94 = .ok (.aload_n 0, 1) := by decide +kernel
theorem dX6_save_95 : decode cX6_save 95 = .ok (.getfield 65, 3) := by decide +kernel
theorem dX6_save_98 : decode cX6_save 98 = .ok (.getfield 155, 3) := by decide +kernel
theorem dX6_save_101 : decode cX6_save 101 = .ok (.invokevirtual 101, 3) := by decide +kernel
theorem dX6_save_104 : decode cX6_save 104 = .ok (.invokevirtual 213, 3) := by decide +kernel
theorem dX6_save_107 : decode cX6_save 107 = .ok (.iload 4, 2) := by decide +kernel
theorem dX6_save_109 : decode cX6_save 109 = .ok (.iconst (-1), 1) := by decide +kernel
theorem dX6_save_110 : decode cX6_save 110 = .ok (.if_icmp .eq 15, 3) := by decide +kernel
theorem dX6_save_113 : decode cX6_save 113 = .ok (.aload_n 0, 1) := by decide +kernel
theorem dX6_save_114 : decode cX6_save 114 = .ok (.getfield 61, 3) := by decide +kernel
theorem dX6_save_117 : decode cX6_save 117 = .ok (.getfield 217, 3) := by decide +kernel
theorem dX6_save_120 : decode cX6_save 120 = .ok (.iload 5, 2) := by decide +kernel
theorem dX6_save_122 : decode cX6_save 122 = .ok (.if_icmp .ge 25, 3) := by decide +kernel
theorem dX6_save_125 : decode cX6_save 125 = .ok (.iload 7, 2) := by decide +kernel
theorem dX6_save_127 : decode cX6_save 127 = .ok (.istore 4, 2) := by decide +kernel
theorem dX6_save_129 : decode cX6_save 129 = .ok (.aload_n 0, 1) := by decide +kernel
theorem dX6_save_130 : decode cX6_save 130 = .ok (.getfield 61, 3) := by decide +kernel
theorem dX6_save_133 : decode cX6_save 133 = .ok (.getfield 217, 3) := by decide +kernel
theorem dX6_save_136 : decode cX6_save 136 = .ok (.istore 5, 2) := by decide +kernel
theorem dX6_save_138 : decode cX6_save 138 = .ok (.aload_n 0, 1) := by decide +kernel
theorem dX6_save_139 : decode cX6_save 139 = .ok (.getfield 61, 3) := by decide +kernel
theorem dX6_save_142 : decode cX6_save 142 = .ok (.invokevirtual 184, 3) := by decide +kernel
theorem dX6_save_145 : decode cX6_save 145 = .ok (.istore 6, 2) := by decide +kernel
theorem dX6_save_147 : decode cX6_save 147 = .ok (.iinc 7 1, 3) := by decide +kernel
theorem dX6_save_150 : decode cX6_save 150 = .ok (.goto (-100), 3) := by decide +kernel
theorem dX6_save_153 : decode cX6_save 153 = .ok (.iload_n 3, 1) := by decide +kernel
theorem dX6_save_154 : decode cX6_save 154 = .ok (.ifCond .ne 8, 3) := by decide +kernel
theorem dX6_save_157 : decode cX6_save 157 = .ok (.iload 4, 2) := by decide +kernel
theorem dX6_save_159 : decode cX6_save 159 = .ok (.goto 23, 3) := by decide +kernel
theorem dX6_save_162 : decode cX6_save 162 = .ok (.iload_n 3, 1) := by decide +kernel
theorem dX6_save_163 : decode cX6_save 163 = .ok (.iconst 1, 1) := by decide +kernel
theorem dX6_save_164 : decode cX6_save 164 = .ok (.if_icmp .ne 8, 3) := by decide +kernel
theorem dX6_save_167 : decode cX6_save 167 = .ok (.iload 5, 2) := by decide +kernel
theorem dX6_save_169 : decode cX6_save 169 = .ok (.goto 13, 3) := by decide +kernel
theorem dX6_save_172 : decode cX6_save 172 = .ok (.iload 6, 2) := by decide +kernel
theorem dX6_save_174 : decode cX6_save 174 = .ok (.ifCond .eq 7, 3) := by decide +kernel
theorem dX6_save_177 : decode cX6_save 177 = .ok (.iconst 1, 1) := by decide +kernel
theorem dX6_save_178 : decode cX6_save 178 = .ok (.goto 4, 3) := by decide +kernel
theorem dX6_save_181 : decode cX6_save 181 = .ok (.iconst 0, 1) := by decide +kernel
theorem dX6_save_182 : decode cX6_save 182 = .ok (.ireturn, 1) := by decide +kernel
theorem dX6_why_0 : decode cX6_why 0 = .ok (.aload_n 0, 1) := by decide +kernel
theorem dX6_why_1 : decode cX6_why 1 = .ok (.iload_n 1, 1) := by decide +kernel
theorem dX6_why_2 : decode cX6_why 2 = .ok (.invokevirtual 165, 3) := by decide +kernel
theorem dX6_why_5 : decode cX6_why 5 = .ok (.ifCond .ne 6, 3) := by decide +kernel
theorem dX6_why_8 : decode cX6_why 8 = .ok (.bipush (-5), 2) := by decide +kernel
theorem dX6_why_10 : decode cX6_why 10 = .ok (.ireturn, 1) := by decide +kernel
theorem dX6_why_11 : decode cX6_why 11 = .ok (.aload_n 0, 1) := by decide +kernel
theorem dX6_why_12 : decode cX6_why 12 = .ok (.iload_n 1, 1) := by decide +kernel
theorem dX6_why_13 : decode cX6_why 13 = .ok (.invokevirtual 171, 3) := by decide +kernel
theorem dX6_why_16 : decode cX6_why 16 = .ok (.aload_n 0, 1) := by decide +kernel
theorem dX6_why_17 : decode cX6_why 17 = .ok (.getfield 57, 3) := by decide +kernel
theorem dX6_why_20 : decode cX6_why 20 = .ok (.invokevirtual 184, 3) := by decide +kernel
theorem dX6_why_23 : decode cX6_why 23 = .ok (.ifCond .eq 5, 3) := by decide +kernel
theorem dX6_why_26 : decode cX6_why 26 = .ok (.iconst (-1), 1) := by decide +kernel
theorem dX6_why_27 : decode cX6_why 27 = .ok (.ireturn, 1) := by decide +kernel
theorem dX6_why_28 : decode cX6_why 28 = .ok (.iconst 0, 1) := by decide +kernel
theorem dX6_why_29 : decode cX6_why 29 = .ok (.istore_n 2, 1) := by decide +kernel
theorem dX6_why_30 : decode cX6_why 30 = .ok (.iload_n 2, 1) := by decide +kernel
theorem dX6_why_31 : decode cX6_why 31 = .ok (.iload_n 1, 1) := by decide +kernel
theorem dX6_why_32 : decode cX6_why 32 = .ok (.if_icmp .ge 39, 3) := by decide +kernel
theorem dX6_why_35 : decode cX6_why 35 = .ok (.aload_n 0, 1) := by decide +kernel
theorem dX6_why_36 : decode cX6_why 36 = .ok (.invokevirtual 220, 3) := by decide +kernel
theorem dX6_why_39 : decode cX6_why 39 = .ok (.aload_n 0, 1) := by decide +kernel
theorem dX6_why_40 : decode cX6_why 40 = .ok (.iconst 0, 1) := by decide +kernel
theorem dX6_why_41 : decode cX6_why 41 = .ok (.iload_n 2, 1) := by decide +kernel
theorem dX6_why_42 : decode cX6_why 42 = .ok (.invokevirtual 223, 3) := by decide +kernel
theorem dX6_why_45 : decode cX6_why 45 = .ok (.aload_n 0, 1) := by decide +kernel
theorem dX6_why_46 : decode cX6_why 46 = .ok (.iload_n 2, 1) := by decide +kernel
theorem dX6_why_47 : decode cX6_why 47 = .ok (.iconst 1, 1) := by decide +kernel
theorem dX6_why_48 : decode cX6_why 48 = .ok (.iadd, 1) := by decide +kernel
theorem dX6_why_49 : decode cX6_why 49 = .ok (.iload_n 1, 1) := by decide +kernel
theorem dX6_why_50 : decode cX6_why 50 = .ok (.invokevirtual 223, 3) := by decide +kernel
theorem dX6_why_53 : decode cX6_why 53 = .ok (.aload_n 0, 1) := by decide +kernel
theorem dX6_why_54 : decode cX6_why 54 = .ok (.getfield 57, 3) := by decide +kernel
theorem dX6_why_57 : decode cX6_why 57 = .ok (.invokevirtual 184, 3) := by decide +kernel
theorem dX6_why_60 : decode cX6_why 60 = .ok (.ifCond .eq 5, 3) := by decide +kernel
theorem dX6_why_63 : decode cX6_why 63 = .ok (.iload_n 2, 1) := by decide +kernel
theorem dX6_why_64 : decode cX6_why 64 = .ok (.ireturn, 1) := by decide +kernel
theorem dX6_why_65 : decode cX6_why 65 = .ok (.iinc 2 1, 3) := by decide +kernel
theorem dX6_why_68 : decode cX6_why 68 = .ok (.goto (-38), 3) := by decide +kernel
theorem dX6_why_71 : decode cX6_why 71 = .ok (.iconst (-1), 1) := by decide +kernel
theorem dX6_why_72 : decode cX6_why 72 = .ok (.ireturn, 1) := by decide +kernel
theorem dX6_order_0 : decode cX6_order 0 = .ok (.iload_n 1, 1) := by decide +kernel
theorem dX6_order_1 : decode cX6_order 1 = .ok (.invokestatic 175, 3) := by decide +kernel
theorem dX6_order_4 : decode cX6_order 4 = .ok (.ifCond .ne 6, 3) := by decide +kernel
theorem dX6_order_7 : decode cX6_order 7 = .ok (.bipush (-2), 2) := by decide +kernel
theorem dX6_order_9 : decode cX6_order 9 = .ok (.ireturn, 1) := by decide +kernel
theorem dX6_order_10 : decode cX6_order 10 = .ok (.aload_n 0, 1) := by decide +kernel
theorem dX6_order_11 : decode cX6_order 11 = .ok (.aload_n 0, 1) := by decide +kernel
theorem dX6_order_12 : decode cX6_order 12 = .ok (.getfield 120, 3) := by decide +kernel
theorem dX6_order_15 : decode cX6_order 15 = .ok (.invokevirtual 171, 3) := by decide +kernel
theorem dX6_order_18 : decode cX6_order 18 = .ok (.aload_n 0, 1) := by decide +kernel
theorem dX6_order_19 : decode cX6_order 19 = .ok (.getfield 57, 3) := by decide +kernel
theorem dX6_order_22 : decode cX6_order 22 = .ok (.getfield 217, 3) := by decide +kernel
theorem dX6_order_25 : decode cX6_order 25 = .ok (.istore_n 2, 1) := by decide +kernel
theorem dX6_order_26 : decode cX6_order 26 = .ok (.iconst (-1), 1) := by decide +kernel
theorem dX6_order_27 : decode cX6_order 27 = .ok (.istore_n 3, 1) := by decide +kernel
theorem dX6_order_28 : decode cX6_order 28 = .ok (.iconst 0, 1) := by decide +kernel
theorem dX6_order_29 : decode cX6_order 29 = .ok (.istore 4, 2) := by decide +kernel
theorem dX6_order_31 : decode cX6_order 31 = .ok (.iload 4, 2) := by decide +kernel
theorem dX6_order_33 : decode cX6_order 33 = .ok (.iconst 1, 1) := by decide +kernel
theorem dX6_order_34 : decode cX6_order 34 = .ok (.iadd, 1) := by decide +kernel
theorem dX6_order_35 : decode cX6_order 35 = .ok (.aload_n 0, 1) := by decide +kernel
theorem dX6_order_36 : decode cX6_order 36 = .ok (.getfield 120, 3) := by decide +kernel
theorem dX6_order_39 : decode cX6_order 39 = .ok (.if_icmp .ge 76, 3) := by decide +kernel
theorem dX6_order_42 : decode cX6_order 42 = .ok (.aload_n 0, 1) := by decide +kernel
theorem dX6_order_43 : decode cX6_order 43 = .ok (.invokevirtual 220, 3) := by decide +kernel
theorem dX6_order_46 : decode cX6_order 46 = .ok (.aload_n 0, 1) := by decide +kernel
theorem dX6_order_47 : decode cX6_order 47 = .ok (.iconst 0, 1) := by decide +kernel
theorem dX6_order_48 : decode cX6_order 48 = .ok (.iload 4, 2) := by decide +kernel
theorem dX6_order_50 : decode cX6_order 50 = .ok (.invokevirtual 223, 3) := by decide +kernel
theorem dX6_order_53 : decode cX6_order 53 = .ok (.aload_n 0, 1) := by decide +kernel
theorem dX6_order_54 : decode cX6_order 54 = .ok (.iload 4, 2) := by decide +kernel
theorem dX6_order_56 : decode cX6_order 56 = .ok (.iconst 1, 1) := by decide +kernel
theorem dX6_order_57 : decode cX6_order 57 = .ok (.iadd, 1) := by decide +kernel
theorem dX6_order_58 : decode cX6_order 58 = .ok (.iload 4, 2) := by decide +kernel
theorem dX6_order_60 : decode cX6_order 60 = .ok (.iconst 2, 1) := by decide +kernel
theorem dX6_order_61 : decode cX6_order 61 = .ok (.iadd, 1) := by decide +kernel
theorem dX6_order_62 : decode cX6_order 62 = .ok (.invokevirtual 223, 3) := by decide +kernel
theorem dX6_order_65 : decode cX6_order 65 = .ok (.aload_n 0, 1) := by decide +kernel
theorem dX6_order_66 : decode cX6_order 66 = .ok (.iload 4, 2) := by decide +kernel
theorem dX6_order_68 : decode cX6_order 68 = .ok (.iload 4, 2) := by decide +kernel
theorem dX6_order_70 : decode cX6_order 70 = .ok (.iconst 1, 1) := by decide +kernel
theorem dX6_order_71 : decode cX6_order 71 = .ok (.iadd, 1) := by decide +kernel
theorem dX6_order_72 : decode cX6_order 72 = .ok (.invokevirtual 223, 3) := by decide +kernel
theorem dX6_order_75 : decode cX6_order 75 = .ok (.aload_n 0, 1) := by decide +kernel
theorem dX6_order_76 : decode cX6_order 76 = .ok (.iload 4, 2) := by decide +kernel
theorem dX6_order_78 : decode cX6_order 78 = .ok (.iconst 2, 1) := by decide +kernel
theorem dX6_order_79 : decode cX6_order 79 = .ok (.iadd, 1) := by decide +kernel
theorem dX6_order_80 : decode cX6_order 80 = .ok (.aload_n 0, 1) := by decide +kernel
theorem dX6_order_81 : decode cX6_order 81 = .ok (.getfield 120, 3) := by decide +kernel
theorem dX6_order_84 : decode cX6_order 84 = .ok (.invokevirtual 223, 3) := by decide +kernel
theorem dX6_order_87 : decode cX6_order 87 = .ok (.aload_n 0, 1) := by decide +kernel
theorem dX6_order_88 : decode cX6_order 88 = .ok (.getfield 57, 3) := by decide +kernel
theorem dX6_order_91 : decode cX6_order 91 = .ok (.getfield 217, 3) := by decide +kernel
theorem dX6_order_94 : decode cX6_order 94 = .ok (.iload_n 2, 1) := by decide +kernel
theorem dX6_order_95 : decode cX6_order 95 = .ok (.if_icmp .ge 14, 3) := by decide +kernel
theorem dX6_order_98 : decode cX6_order 98 = .ok (.aload_n 0, 1) := by decide +kernel
theorem dX6_order_99 : decode cX6_order 99 = .ok (.getfield 57, 3) := by decide +kernel
theorem dX6_order_102 : decode cX6_order 102 = .ok (.getfield 217, 3) := by decide +kernel
theorem dX6_order_105 : decode cX6_order 105 = .ok (.istore_n 2, 1) := by decide +kernel
theorem dX6_order_106 : decode cX6_order 106 = .ok (.iload 4, 2) := by decide +kernel
theorem dX6_order_108 : decode cX6_order 108 = .ok (.istore_n 3, 1) := by decide +kernel
theorem dX6_order_109 : decode cX6_order 109 = .ok (.iinc 4 1, 3) := by decide +kernel
theorem dX6_order_112 : decode cX6_order 112 = .ok (.goto (-81), 3) := by decide +kernel
theorem dX6_order_115 : decode cX6_order 115 = .ok (.iload_n 1, 1) := by decide +kernel
theorem dX6_order_116 : decode cX6_order 116 = .ok (.ifCond .ne 7, 3) := by decide +kernel
theorem dX6_order_119 : decode cX6_order 119 = .ok (.iload_n 3, 1) := by decide +kernel
theorem dX6_order_120 : decode cX6_order 120 = .ok (.goto 4, 3) := by decide +kernel
theorem dX6_order_123 : decode cX6_order 123 = .ok (.iload_n 2, 1) := by decide +kernel
theorem dX6_order_124 : decode cX6_order 124 = .ok (.ireturn, 1) := by decide +kernel
theorem dX6_strokes_0 : decode cX6_strokes 0 = .ok (.aload_n 0, 1) := by decide +kernel
theorem dX6_strokes_1 : decode cX6_strokes 1 = .ok (.iload_n 1, 1) := by decide +kernel
theorem dX6_strokes_2 : decode cX6_strokes 2 = .ok (.invokevirtual 165, 3) := by decide +kernel
theorem dX6_strokes_5 : decode cX6_strokes 5 = .ok (.ifCond .ne 6, 3) := by decide +kernel
theorem dX6_strokes_8 : decode cX6_strokes 8 = .ok (.bipush (-5), 2) := by decide +kernel
theorem dX6_strokes_10 : decode cX6_strokes 10 = .ok (.ireturn, 1) := by decide +kernel
theorem dX6_strokes_11 : decode cX6_strokes 11 = .ok (.iload_n 2, 1) := by decide +kernel
theorem dX6_strokes_12 : decode cX6_strokes 12 = .ok (.iconst 1, 1) := by decide +kernel
theorem dX6_strokes_13 : decode cX6_strokes 13 = .ok (.if_icmp .lt 9, 3) := by decide +kernel
theorem dX6_strokes_16 : decode cX6_strokes 16 = .ok (.iload_n 2, 1) := by decide +kernel
theorem dX6_strokes_17 : decode cX6_strokes 17 = .ok (.bipush 9, 2) := by decide +kernel
theorem dX6_strokes_19 : decode cX6_strokes 19 = .ok (.if_icmp .le 6, 3) := by decide +kernel
theorem dX6_strokes_22 : decode cX6_strokes 22 = .ok (.bipush (-7), 2) := by decide +kernel
theorem dX6_strokes_24 : decode cX6_strokes 24 = .ok (.ireturn, 1) := by decide +kernel
theorem dX6_strokes_25 : decode cX6_strokes 25 = .ok (.aload_n 0, 1) := by decide +kernel
theorem dX6_strokes_26 : decode cX6_strokes 26 = .ok (.iload_n 1, 1) := by decide +kernel
theorem dX6_strokes_27 : decode cX6_strokes 27 = .ok (.invokevirtual 171, 3) := by decide +kernel
theorem dX6_strokes_30 : decode cX6_strokes 30 = .ok (.iconst 0, 1) := by decide +kernel
theorem dX6_strokes_31 : decode cX6_strokes 31 = .ok (.istore_n 3, 1) := by decide +kernel
theorem dX6_strokes_32 : decode cX6_strokes 32 = .ok (.iload_n 3, 1) := by decide +kernel
theorem dX6_strokes_33 : decode cX6_strokes 33 = .ok (.bipush 60, 2) := by decide +kernel
theorem dX6_strokes_35 : decode cX6_strokes 35 = .ok (.if_icmp .gt 37, 3) := by decide +kernel
theorem dX6_strokes_38 : decode cX6_strokes 38 = .ok (.aload_n 0, 1) := by decide +kernel
theorem dX6_strokes_39 : decode cX6_strokes 39 = .ok (.getfield 57, 3) := by decide +kernel
theorem dX6_strokes_42 : decode cX6_strokes 42 = .ok (.getfield 217, 3) := by decide +kernel
theorem dX6_strokes_45 : decode cX6_strokes 45 = .ok (.ifCond .ne 5, 3) := by decide +kernel
theorem dX6_strokes_48 : decode cX6_strokes 48 = .ok (.iload_n 3, 1) := by decide +kernel
theorem dX6_strokes_49 : decode cX6_strokes 49 = .ok (.ireturn, 1) := by decide +kernel
theorem dX6_strokes_50 : decode cX6_strokes 50 = .ok (.aload_n 0, 1) := by decide +kernel
theorem dX6_strokes_51 : decode cX6_strokes 51 = .ok (.getfield 57, 3) := by decide +kernel
theorem dX6_strokes_54 : decode cX6_strokes 54 = .ok (.iload_n 2, 1) := by decide +kernel
theorem dX6_strokes_55 : decode cX6_strokes 55 = .ok (.invokevirtual 226, 3) := by decide +kernel
theorem dX6_strokes_58 : decode cX6_strokes 58 = .ok (.aload_n 0, 1) := by decide +kernel
theorem dX6_strokes_59 : decode cX6_strokes 59 = .ok (.getfield 57, 3) := by decide +kernel
theorem dX6_strokes_62 : decode cX6_strokes 62 = .ok (.iconst 1, 1) := by decide +kernel
theorem dX6_strokes_63 : decode cX6_strokes 63 = .ok (.invokevirtual 187, 3) := by decide +kernel
theorem dX6_strokes_66 : decode cX6_strokes 66 = .ok (.iinc 3 1, 3) := by decide +kernel
theorem dX6_strokes_69 : decode cX6_strokes 69 = .ok (.goto (-37), 3) := by decide +kernel
theorem dX6_strokes_72 : decode cX6_strokes 72 = .ok (.iconst (-1), 1) := by decide +kernel
theorem dX6_strokes_73 : decode cX6_strokes 73 = .ok (.ireturn, 1) := by decide +kernel
theorem dX6_mix_0 : decode cX6_mix 0 = .ok (.iload_n 1, 1) := by decide +kernel
theorem dX6_mix_1 : decode cX6_mix 1 = .ok (.ifCond .ge 7, 3) := by decide +kernel
theorem dX6_mix_4 : decode cX6_mix 4 = .ok (.aconst_null, 1) := by decide +kernel
theorem dX6_mix_5 : decode cX6_mix 5 = .ok (.goto 11, 3) := by decide +kernel
theorem dX6_mix_8 : decode cX6_mix 8 = .ok (.aload_n 0, 1) := by decide +kernel
theorem dX6_mix_9 : decode cX6_mix 9 = .ok (.iload_n 1, 1) := by decide +kernel
theorem dX6_mix_10 : decode cX6_mix 10 = .ok (.bipush 10, 2) := by decide +kernel
theorem dX6_mix_12 : decode cX6_mix 12 = .ok (.idiv, 1) := by decide +kernel
theorem dX6_mix_13 : decode cX6_mix 13 = .ok (.invokevirtual 101, 3) := by decide +kernel
theorem dX6_mix_16 : decode cX6_mix 16 = .ok (.astore 4, 2) := by decide +kernel
theorem dX6_mix_18 : decode cX6_mix 18 = .ok (.iload_n 1, 1) := by decide +kernel
theorem dX6_mix_19 : decode cX6_mix 19 = .ok (.ifCond .ge 7, 3) := by decide +kernel
theorem dX6_mix_22 : decode cX6_mix 22 = .ok (.aconst_null, 1) := by decide +kernel
theorem dX6_mix_23 : decode cX6_mix 23 = .ok (.goto 11, 3) := by decide +kernel
theorem dX6_mix_26 : decode cX6_mix 26 = .ok (.aload_n 0, 1) := by decide +kernel
theorem dX6_mix_27 : decode cX6_mix 27 = .ok (.iload_n 1, 1) := by decide +kernel
theorem dX6_mix_28 : decode cX6_mix 28 = .ok (.bipush 10, 2) := by decide +kernel
theorem dX6_mix_30 : decode cX6_mix 30 = .ok (.irem, 1) := by decide +kernel
theorem dX6_mix_31 : decode cX6_mix 31 = .ok (.invokevirtual 101, 3) := by decide +kernel
theorem dX6_mix_34 : decode cX6_mix 34 = .ok (.astore 5, 2) := by decide +kernel
theorem dX6_mix_36 : decode cX6_mix 36 = .ok (.aload 4, 2) := by decide +kernel
theorem dX6_mix_38 : decode cX6_mix 38 = .ok (.ifnull 8, 3) := by decide +kernel
theorem dX6_mix_41 : decode cX6_mix 41 = .ok (.aload 5, 2) := by decide +kernel
theorem dX6_mix_43 : decode cX6_mix 43 = .ok (.ifnonnull 6, 3) := by decide +kernel
theorem dX6_mix_46 : decode cX6_mix 46 = .ok (.bipush (-5), 2) := by decide +kernel
theorem dX6_mix_48 : decode cX6_mix 48 = .ok (.ireturn, 1) := by decide +kernel
theorem dX6_mix_49 : decode cX6_mix 49 = .ok (.iload_n 2, 1) := by decide +kernel
theorem dX6_mix_50 : decode cX6_mix 50 = .ok (.bipush 100, 2) := by decide +kernel
theorem dX6_mix_52 : decode cX6_mix 52 = .ok (.idiv, 1) := by decide +kernel
theorem dX6_mix_53 : decode cX6_mix 53 = .ok (.istore 6, 2) := by decide +kernel
theorem dX6_mix_55 : decode cX6_mix 55 = .ok (.iload_n 2, 1) := by decide +kernel
theorem dX6_mix_56 : decode cX6_mix 56 = .ok (.bipush 100, 2) := by decide +kernel
theorem dX6_mix_58 : decode cX6_mix 58 = .ok (.irem, 1) := by decide +kernel
theorem dX6_mix_59 : decode cX6_mix 59 = .ok (.istore 7, 2) := by decide +kernel
theorem dX6_mix_61 : decode cX6_mix 61 = .ok (.iload 6, 2) := by decide +kernel
theorem dX6_mix_63 : decode cX6_mix 63 = .ok (.iconst 1, 1) := by decide +kernel
theorem dX6_mix_64 : decode cX6_mix 64 = .ok (.if_icmp .lt 29, 3) := by decide +kernel
theorem dX6_mix_67 : decode cX6_mix 67 = .ok (.iload 6, 2) := by decide +kernel
theorem dX6_mix_69 : decode cX6_mix 69 = .ok (.bipush 20, 2) := by decide +kernel
theorem dX6_mix_71 : decode cX6_mix 71 = .ok (.if_icmp .gt 22, 3) := by decide +kernel
theorem dX6_mix_74 : decode cX6_mix 74 = .ok (.iload 7, 2) := by decide +kernel
theorem dX6_mix_76 : decode cX6_mix 76 = .ok (.ifCond .lt 17, 3) := by decide +kernel
theorem dX6_mix_79 : decode cX6_mix 79 = .ok (.iload 7, 2) := by decide +kernel
theorem dX6_mix_81 : decode cX6_mix 81 = .ok (.bipush 60, 2) := by decide +kernel
theorem dX6_mix_83 : decode cX6_mix 83 = .ok (.if_icmp .gt 10, 3) := by decide +kernel
theorem dX6_mix_86 : decode cX6_mix 86 = .ok (.iload_n 3, 1) := by decide +kernel
theorem dX6_mix_87 : decode cX6_mix 87 = .ok (.invokestatic 175, 3) := by decide +kernel
theorem dX6_mix_90 : decode cX6_mix 90 = .ok (.ifCond .ne 6, 3) := by decide +kernel
theorem dX6_mix_93 : decode cX6_mix 93 = .ok (.bipush (-7), 2) := by decide +kernel
theorem dX6_mix_95 : decode cX6_mix 95 = .ok (.ireturn, 1) := by decide +kernel
theorem dX6_mix_96 : decode cX6_mix 96 = .ok (.iconst (-1), 1) := by decide +kernel
theorem dX6_mix_97 : decode cX6_mix 97 = .ok (.istore 8, 2) := by decide +kernel
theorem dX6_mix_99 : decode cX6_mix 99 = .ok (.iconst (-1), 1) := by decide +kernel
theorem dX6_mix_100 : decode cX6_mix 100 = .ok (.istore 9, 2) := by decide +kernel
theorem dX6_mix_102 : decode cX6_mix 102 = .ok (.iconst 0, 1) := by decide +kernel
theorem dX6_mix_103 : decode cX6_mix 103 = .ok (.istore 10, 2) := by decide +kernel
theorem dX6_mix_105 : decode cX6_mix 105 = .ok (.iload 10, 2) := by decide +kernel
theorem dX6_mix_107 : decode cX6_mix 107 = .ok (.iload 6, 2) := by decide +kernel
theorem dX6_mix_109 : decode cX6_mix 109 = .ok (.if_icmp .gt 114, 3) := by decide +kernel
theorem dX6_mix_112 : decode cX6_mix 112 = .ok (.iload 10, 2) := by decide +kernel
theorem dX6_mix_114 : decode cX6_mix 114 = .ok (.aload 4, 2) := by decide +kernel
theorem dX6_mix_116 : decode cX6_mix 116 = .ok (.iconst 4, 1) := by decide +kernel
theorem dX6_mix_117 : decode cX6_mix 117 = .ok (.invokevirtual 109, 3) := by decide +kernel
theorem dX6_mix_120 : decode cX6_mix 120 = .ok (.imul, 1) := by decide +kernel
theorem dX6_mix_121 : decode cX6_mix 121 = .ok (.iload 6, 2) := by decide +kernel
theorem dX6_mix_123 : decode cX6_mix 123 = .ok (.iload 10, 2) := by decide +kernel
theorem dX6_mix_125 : decode cX6_mix 125 = .ok (.isub, 1) := by decide +kernel
theorem dX6_mix_126 : decode cX6_mix 126 = .ok (.aload 5, 2) := by decide +kernel
theorem dX6_mix_128 : decode cX6_mix 128 = .ok (.iconst 4, 1) := by decide +kernel
theorem dX6_mix_129 : decode cX6_mix 129 = .ok (.invokevirtual 109, 3) := by decide +kernel
theorem dX6_mix_132 : decode cX6_mix 132 = .ok (.imul, 1) := by decide +kernel
theorem dX6_mix_133 : decode cX6_mix 133 = .ok (.iadd, 1) := by decide +kernel
theorem dX6_mix_134 : decode cX6_mix 134 = .ok (.istore 11, 2) := by decide +kernel
theorem dX6_mix_136 : decode cX6_mix 136 = .ok (.iload 11, 2) := by decide +kernel
theorem dX6_mix_138 : decode cX6_mix 138 = .ok (.iload 9, 2) := by decide +kernel
theorem dX6_mix_140 : decode cX6_mix 140 = .ok (.if_icmp .gt 6, 3) := by decide +kernel
theorem dX6_mix_143 : decode cX6_mix 143 = .ok (.goto 74, 3) := by decide +kernel
theorem dX6_mix_146 : decode cX6_mix 146 = .ok (.aload_n 0, 1) := by decide +kernel
theorem dX6_mix_147 : decode cX6_mix 147 = .ok (.invokevirtual 220, 3) := by decide +kernel
theorem dX6_mix_150 : decode cX6_mix 150 = .ok (.aload_n 0, 1) := by decide +kernel
theorem dX6_mix_151 : decode cX6_mix 151 = .ok (.getfield 57, 3) := by decide +kernel
theorem dX6_mix_154 : decode cX6_mix 154 = .ok (.aload 4, 2) := by decide +kernel
theorem dX6_mix_156 : decode cX6_mix 156 = .ok (.iload 10, 2) := by decide +kernel
theorem dX6_mix_158 : decode cX6_mix 158 = .ok (.invokevirtual 229, 3) := by decide +kernel
theorem dX6_mix_161 : decode cX6_mix 161 = .ok (.aload_n 0, 1) := by decide +kernel
theorem dX6_mix_162 : decode cX6_mix 162 = .ok (.getfield 57, 3) := by decide +kernel
theorem dX6_mix_165 : decode cX6_mix 165 = .ok (.aload 5, 2) := by decide +kernel
theorem dX6_mix_167 : decode cX6_mix 167 = .ok (.iload 6, 2) := by decide +kernel
theorem dX6_mix_169 : decode cX6_mix 169 = .ok (.iload 10, 2) := by decide +kernel
theorem dX6_mix_171 : decode cX6_mix 171 = .ok (.isub, 1) := by decide +kernel
theorem dX6_mix_172 : decode cX6_mix 172 = .ok (.invokevirtual 229, 3) := by decide +kernel
theorem dX6_mix_175 : decode cX6_mix 175 = .ok (.iconst 0, 1) := by decide +kernel
theorem dX6_mix_176 : decode cX6_mix 176 = .ok (.istore 12, 2) := by decide +kernel
theorem dX6_mix_178 : decode cX6_mix 178 = .ok (.iload 12, 2) := by decide +kernel
theorem dX6_mix_180 : decode cX6_mix 180 = .ok (.iload 7, 2) := by decide +kernel
theorem dX6_mix_182 : decode cX6_mix 182 = .ok (.if_icmp .ge 17, 3) := by decide +kernel
theorem dX6_mix_185 : decode cX6_mix 185 = .ok (.aload_n 0, 1) := by decide +kernel
theorem dX6_mix_186 : decode cX6_mix 186 = .ok (.getfield 57, 3) := by decide +kernel
theorem dX6_mix_189 : decode cX6_mix 189 = .ok (.iconst 1, 1) := by decide +kernel
theorem dX6_mix_190 : decode cX6_mix 190 = .ok (.invokevirtual 187, 3) := by decide +kernel
theorem dX6_mix_193 : decode cX6_mix 193 = .ok (.iinc 12 1, 3) := by decide +kernel
theorem dX6_mix_196 : decode cX6_mix 196 = .ok (.goto (-18), 3) := by decide +kernel
theorem dX6_mix_199 : decode cX6_mix 199 = .ok (.aload_n 0, 1) := by decide +kernel
theorem dX6_mix_200 : decode cX6_mix 200 = .ok (.getfield 57, 3) := by decide +kernel
theorem dX6_mix_203 : decode cX6_mix 203 = .ok (.invokevirtual 184, 3) := by decide +kernel
theorem dX6_mix_206 : decode cX6_mix 206 = .ok (.ifCond .eq 11, 3) := by decide +kernel
theorem dX6_mix_209 : decode cX6_mix 209 = .ok (.iload 10, 2) := by decide +kernel
theorem dX6_mix_211 : decode cX6_mix 211 = .ok (.istore 8, 2) := by decide +kernel
theorem dX6_mix_213 : decode cX6_mix 213 = .ok (.iload 11, 2) := by decide +kernel
theorem dX6_mix_215 : decode cX6_mix 215 = .ok (.istore 9, 2) := by decide +kernel
theorem dX6_mix_217 : decode cX6_mix 217 = .ok (.iinc 10 1, 3) := by decide +kernel
theorem dX6_mix_220 : decode cX6_mix 220 = .ok (.goto (-115), 3) := by decide +kernel
theorem dX6_mix_223 : decode cX6_mix 223 = .ok (.iload_n 3, 1) := by decide +kernel
theorem dX6_mix_224 : decode cX6_mix 224 = .ok (.ifCond .ne 8, 3) := by decide +kernel
theorem dX6_mix_227 : decode cX6_mix 227 = .ok (.iload 8, 2) := by decide +kernel
theorem dX6_mix_229 : decode cX6_mix 229 = .ok (.goto 5, 3) := by decide +kernel
theorem dX6_mix_232 : decode cX6_mix 232 = .ok (.iload 9, 2) := by decide +kernel
theorem dX6_mix_234 : decode cX6_mix 234 = .ok (.ireturn, 1) := by decide +kernel
theorem dX6_week_0 : decode cX6_week 0 = .ok (.aload_n 0, 1) := by decide +kernel
theorem dX6_week_1 : decode cX6_week 1 = .ok (.iload_n 1, 1) := by decide +kernel
theorem dX6_week_2 : decode cX6_week 2 = .ok (.invokevirtual 101, 3) := by decide +kernel
theorem dX6_week_5 : decode cX6_week 5 = .ok (.astore_n 3, 1) := by decide +kernel
theorem dX6_week_6 : decode cX6_week 6 = .ok (.aload_n 3, 1) := by decide +kernel
theorem dX6_week_7 : decode cX6_week 7 = .ok (.ifnonnull 6, 3) := by decide +kernel
theorem dX6_week_10 : decode cX6_week 10 = .ok (.bipush (-5), 2) := by decide +kernel
theorem dX6_week_12 : decode cX6_week 12 = .ok (.ireturn, 1) := by decide +kernel
theorem dX6_week_13 : decode cX6_week 13 = .ok (.iload_n 2, 1) := by decide +kernel
theorem dX6_week_14 : decode cX6_week 14 = .ok (.invokestatic 175, 3) := by decide +kernel
theorem dX6_week_17 : decode cX6_week 17 = .ok (.ifCond .ne 6, 3) := by decide +kernel
theorem dX6_week_20 : decode cX6_week 20 = .ok (.bipush (-7), 2) := by decide +kernel
theorem dX6_week_22 : decode cX6_week 22 = .ok (.ireturn, 1) := by decide +kernel
theorem dX6_week_23 : decode cX6_week 23 = .ok (.aload_n 3, 1) := by decide +kernel
theorem dX6_week_24 : decode cX6_week 24 = .ok (.iconst 0, 1) := by decide +kernel
theorem dX6_week_25 : decode cX6_week 25 = .ok (.invokevirtual 109, 3) := by decide +kernel
theorem dX6_week_28 : decode cX6_week 28 = .ok (.istore 4, 2) := by decide +kernel
theorem dX6_week_30 : decode cX6_week 30 = .ok (.iconst (-1), 1) := by decide +kernel
theorem dX6_week_31 : decode cX6_week 31 = .ok (.istore 5, 2) := by decide +kernel
theorem dX6_week_33 : decode cX6_week 33 = .ok (.iconst (-1), 1) := by decide +kernel
theorem dX6_week_34 : decode cX6_week 34 = .ok (.istore 6, 2) := by decide +kernel
theorem dX6_week_36 : decode cX6_week 36 = .ok (.iconst 1, 1) := by decide +kernel
theorem dX6_week_37 : decode cX6_week 37 = .ok (.istore 7, 2) := by decide +kernel
theorem dX6_week_39 : decode cX6_week 39 = .ok (.iload 7, 2) := by decide +kernel
theorem dX6_week_41 : decode cX6_week 41 = .ok (.bipush 60, 2) := by decide +kernel
theorem dX6_week_43 : decode cX6_week 43 = .ok (.if_icmp .gt 48, 3) := by decide +kernel
theorem dX6_week_46 : decode cX6_week 46 = .ok (.aload_n 3, 1) := by decide +kernel
theorem dX6_week_47 : decode cX6_week 47 = .ok (.iconst 0, 1) := by decide +kernel
theorem dX6_week_48 : decode cX6_week 48 = .ok (.iload 7, 2) := by decide +kernel
theorem dX6_week_50 : decode cX6_week 50 = .ok (.invokevirtual 105, 3) := by decide +kernel
theorem dX6_week_53 : decode cX6_week 53 = .ok (.aload_n 0, 1) := by decide +kernel
theorem dX6_week_54 : decode cX6_week 54 = .ok (.aload_n 0, 1) := by decide +kernel
theorem dX6_week_55 : decode cX6_week 55 = .ok (.getfield 120, 3) := by decide +kernel
theorem dX6_week_58 : decode cX6_week 58 = .ok (.invokevirtual 171, 3) := by decide +kernel
theorem dX6_week_61 : decode cX6_week 61 = .ok (.aload_n 0, 1) := by decide +kernel
theorem dX6_week_62 : decode cX6_week 62 = .ok (.getfield 57, 3) := by decide +kernel
theorem dX6_week_65 : decode cX6_week 65 = .ok (.invokevirtual 233, 3) := by decide +kernel
theorem dX6_week_68 : decode cX6_week 68 = .ok (.istore 8, 2) := by decide +kernel
theorem dX6_week_70 : decode cX6_week 70 = .ok (.iload 8, 2) := by decide +kernel
theorem dX6_week_72 : decode cX6_week 72 = .ok (.iload 6, 2) := by decide +kernel
theorem dX6_week_74 : decode cX6_week 74 = .ok (.if_icmp .le 11, 3) := by decide +kernel
theorem dX6_week_77 : decode cX6_week 77 = .ok (.iload 7, 2) := by decide +kernel
theorem dX6_week_79 : decode cX6_week 79 = .ok (.istore 5, 2) := by decide +kernel
theorem dX6_week_81 : decode cX6_week 81 = .ok (.iload 8, 2) := by decide +kernel
theorem dX6_week_83 : decode cX6_week 83 = .ok (.istore 6, 2) := by decide +kernel
theorem dX6_week_85 : decode cX6_week 85 = .ok (.iinc 7 1, 3) := by decide +kernel
theorem dX6_week_88 : decode cX6_week 88 = .ok (.goto (-49), 3) := by decide +kernel
theorem dX6_week_91 : decode cX6_week 91 = .ok (.aload_n 3, 1) := by decide +kernel
theorem dX6_week_92 : decode cX6_week 92 = .ok (.iconst 0, 1) := by decide +kernel
theorem dX6_week_93 : decode cX6_week 93 = .ok (.iload 4, 2) := by decide +kernel
theorem dX6_week_95 : decode cX6_week 95 = .ok (.invokevirtual 105, 3) := by decide +kernel
theorem dX6_week_98 : decode cX6_week 98 = .ok (.iload_n 2, 1) := by decide +kernel
theorem dX6_week_99 : decode cX6_week 99 = .ok (.ifCond .ne 8, 3) := by decide +kernel
theorem dX6_week_102 : decode cX6_week 102 = .ok (.iload 5, 2) := by decide +kernel
theorem dX6_week_104 : decode cX6_week 104 = .ok (.goto 5, 3) := by decide +kernel
theorem dX6_week_107 : decode cX6_week 107 = .ok (.iload 6, 2) := by decide +kernel
theorem dX6_week_109 : decode cX6_week 109 = .ok (.ireturn, 1) := by decide +kernel
theorem dX6_pace_0 : decode cX6_pace 0 = .ok (.aload_n 0, 1) := by decide +kernel
theorem dX6_pace_1 : decode cX6_pace 1 = .ok (.iload_n 1, 1) := by decide +kernel
theorem dX6_pace_2 : decode cX6_pace 2 = .ok (.invokevirtual 101, 3) := by decide +kernel
theorem dX6_pace_5 : decode cX6_pace 5 = .ok (.astore_n 3, 1) := by decide +kernel
theorem dX6_pace_6 : decode cX6_pace 6 = .ok (.aload_n 3, 1) := by decide +kernel
theorem dX6_pace_7 : decode cX6_pace 7 = .ok (.ifnonnull 6, 3) := by decide +kernel
theorem dX6_pace_10 : decode cX6_pace 10 = .ok (.bipush (-5), 2) := by decide +kernel
theorem dX6_pace_12 : decode cX6_pace 12 = .ok (.ireturn, 1) := by decide +kernel
theorem dX6_pace_13 : decode cX6_pace 13 = .ok (.iload_n 2, 1) := by decide +kernel
theorem dX6_pace_14 : decode cX6_pace 14 = .ok (.iconst 1, 1) := by decide +kernel
theorem dX6_pace_15 : decode cX6_pace 15 = .ok (.if_icmp .lt 9, 3) := by decide +kernel
theorem dX6_pace_18 : decode cX6_pace 18 = .ok (.iload_n 2, 1) := by decide +kernel
theorem dX6_pace_19 : decode cX6_pace 19 = .ok (.bipush 30, 2) := by decide +kernel
theorem dX6_pace_21 : decode cX6_pace 21 = .ok (.if_icmp .le 6, 3) := by decide +kernel
theorem dX6_pace_24 : decode cX6_pace 24 = .ok (.bipush (-7), 2) := by decide +kernel
theorem dX6_pace_26 : decode cX6_pace 26 = .ok (.ireturn, 1) := by decide +kernel
theorem dX6_pace_27 : decode cX6_pace 27 = .ok (.iload_n 2, 1) := by decide +kernel
theorem dX6_pace_28 : decode cX6_pace 28 = .ok (.istore 4, 2) := by decide +kernel
theorem dX6_pace_30 : decode cX6_pace 30 = .ok (.iload 4, 2) := by decide +kernel
theorem dX6_pace_32 : decode cX6_pace 32 = .ok (.iconst 1, 1) := by decide +kernel
theorem dX6_pace_33 : decode cX6_pace 33 = .ok (.if_icmp .lt 84, 3) := by decide +kernel
theorem dX6_pace_36 : decode cX6_pace 36 = .ok (.aload_n 0, 1) := by decide +kernel
theorem dX6_pace_37 : decode cX6_pace 37 = .ok (.invokevirtual 220, 3) := by decide +kernel
theorem dX6_pace_40 : decode cX6_pace 40 = .ok (.iload_n 2, 1) := by decide +kernel
theorem dX6_pace_41 : decode cX6_pace 41 = .ok (.istore 5, 2) := by decide +kernel
theorem dX6_pace_43 : decode cX6_pace 43 = .ok (.iload 5, 2) := by decide +kernel
theorem dX6_pace_45 : decode cX6_pace 45 = .ok (.ifCond .le 36, 3) := by decide +kernel
theorem dX6_pace_48 : decode cX6_pace 48 = .ok (.aload_n 0, 1) := by decide +kernel
theorem dX6_pace_49 : decode cX6_pace 49 = .ok (.getfield 57, 3) := by decide +kernel
theorem dX6_pace_52 : decode cX6_pace 52 = .ok (.aload_n 3, 1) := by decide +kernel
theorem dX6_pace_53 : decode cX6_pace 53 = .ok (.iload 4, 2) := by decide +kernel
theorem dX6_pace_55 : decode cX6_pace 55 = .ok (.iload 5, 2) := by decide +kernel
theorem dX6_pace_57 : decode cX6_pace 57 = .ok (.invokestatic 196, 3) := by decide +kernel
theorem dX6_pace_60 : decode cX6_pace 60 = .ok (.invokevirtual 229, 3) := by decide +kernel
theorem dX6_pace_63 : decode cX6_pace 63 = .ok (.aload_n 0, 1) := by decide +kernel
theorem dX6_pace_64 : decode cX6_pace 64 = .ok (.getfield 57, 3) := by decide +kernel
theorem dX6_pace_67 : decode cX6_pace 67 = .ok (.iconst 1, 1) := by decide +kernel
theorem dX6_pace_68 : decode cX6_pace 68 = .ok (.invokevirtual 187, 3) := by decide +kernel
theorem dX6_pace_71 : decode cX6_pace 71 = .ok (.iload 5, 2) := by decide +kernel
theorem dX6_pace_73 : decode cX6_pace 73 = .ok (.iload 4, 2) := by decide +kernel
theorem dX6_pace_75 : decode cX6_pace 75 = .ok (.isub, 1) := by decide +kernel
theorem dX6_pace_76 : decode cX6_pace 76 = .ok (.istore 5, 2) := by decide +kernel
theorem dX6_pace_78 : decode cX6_pace 78 = .ok (.goto (-35), 3) := by decide +kernel
theorem dX6_pace_81 : decode cX6_pace 81 = .ok (.aload_n 0, 1) := by decide +kernel
theorem dX6_pace_82 : decode cX6_pace 82 = .ok (.getfield 57, 3) := by decide +kernel
theorem dX6_pace_85 : decode cX6_pace 85 = .ok (.invokevirtual 184, 3) := by decide +kernel
theorem dX6_pace_88 : decode cX6_pace 88 = .ok (.ifCond .eq 23, 3) := by decide +kernel
theorem dX6_pace_91 : decode cX6_pace 91 = .ok (.aload_n 0, 1) := by decide +kernel
theorem dX6_pace_92 : decode cX6_pace 92 = .ok (.getfield 57, 3) := by decide +kernel
theorem dX6_pace_95 : decode cX6_pace 95 = .ok (.getfield 236, 3) := by decide +kernel
theorem dX6_pace_98 : decode cX6_pace 98 = .ok (.aload_n 0, 1) := by decide +kernel
theorem dX6_pace_99 : decode cX6_pace 99 = .ok (.getfield 57, 3) := by decide +kernel
theorem dX6_pace_102 : decode cX6_pace 102 = .ok (.getfield 239, 3) := by decide +kernel
theorem dX6_pace_105 : decode cX6_pace 105 = .ok (.if_icmp .gt 6, 3) := by decide +kernel
theorem dX6_pace_108 : decode cX6_pace 108 = .ok (.iload 4, 2) := by decide +kernel
theorem dX6_pace_110 : decode cX6_pace 110 = .ok (.ireturn, 1) := by decide +kernel
theorem dX6_pace_111 : decode cX6_pace 111 = .ok (.iinc 4 (-1), 3) := by decide +kernel
theorem dX6_pace_114 : decode cX6_pace 114 = .ok (.goto (-84), 3) := by decide +kernel
theorem dX6_pace_117 : decode cX6_pace 117 = .ok (.iconst (-1), 1) := by decide +kernel
theorem dX6_pace_118 : decode cX6_pace 118 = .ok (.ireturn, 1) := by decide +kernel
theorem dX6_table_0 : decode cX6_table 0 = .ok (.iload_n 1, 1) := by decide +kernel
theorem dX6_table_1 : decode cX6_table 1 = .ok (.ifCond .lt 25, 3) := by decide +kernel
theorem dX6_table_4 : decode cX6_table 4 = .ok (.iload_n 1, 1) := by decide +kernel
theorem dX6_table_5 : decode cX6_table 5 = .ok (.bipush 90, 2) := by decide +kernel
theorem dX6_table_7 : decode cX6_table 7 = .ok (.if_icmp .gt 19, 3) := by decide +kernel
theorem dX6_table_10 : decode cX6_table 10 = .ok (.iload_n 2, 1) := by decide +kernel
theorem dX6_table_11 : decode cX6_table 11 = .ok (.invokestatic 242, 3) := by decide +kernel
theorem dX6_table_14 : decode cX6_table 14 = .ok (.ifCond .eq 12, 3) := by decide +kernel
theorem dX6_table_17 : decode cX6_table 17 = .ok (.iload_n 3, 1) := by decide +kernel
theorem dX6_table_18 : decode cX6_table 18 = .ok (.ifCond .lt 8, 3) := by decide +kernel
theorem dX6_table_21 : decode cX6_table 21 = .ok (.iload_n 3, 1) := by decide +kernel
theorem dX6_table_22 : decode cX6_table 22 = .ok (.iconst 3, 1) := by decide +kernel
theorem dX6_table_23 : decode cX6_table 23 = .ok (.if_icmp .le 6, 3) := by decide +kernel
theorem dX6_table_26 : decode cX6_table 26 = .ok (.bipush (-2), 2) := by decide +kernel
theorem dX6_table_28 : decode cX6_table 28 = .ok (.ireturn, 1) := by decide +kernel
theorem dX6_table_29 : decode cX6_table 29 = .ok (.aload_n 0, 1) := by decide +kernel
theorem dX6_table_30 : decode cX6_table 30 = .ok (.aload_n 0, 1) := by decide +kernel
theorem dX6_table_31 : decode cX6_table 31 = .ok (.getfield 120, 3) := by decide +kernel
theorem dX6_table_34 : decode cX6_table 34 = .ok (.invokevirtual 171, 3) := by decide +kernel
theorem dX6_table_37 : decode cX6_table 37 = .ok (.aload_n 0, 1) := by decide +kernel
theorem dX6_table_38 : decode cX6_table 38 = .ok (.getfield 57, 3) := by decide +kernel
theorem dX6_table_41 : decode cX6_table 41 = .ok (.iload_n 1, 1) := by decide +kernel
theorem dX6_table_42 : decode cX6_table 42 = .ok (.iload_n 2, 1) := by decide +kernel
theorem dX6_table_43 : decode cX6_table 43 = .ok (.invokestatic 245, 3) := by decide +kernel
theorem dX6_table_46 : decode cX6_table 46 = .ok (.istore 4, 2) := by decide +kernel
theorem dX6_table_48 : decode cX6_table 48 = .ok (.iload_n 3, 1) := by decide +kernel
theorem dX6_table_49 : decode cX6_table 49 = .ok (.tableswitch 46 0 2 #[27, 30, 38], 27) := by decide +kernel
theorem dX6_table_76 : decode cX6_table 76 = .ok (.iload 4, 2) := by decide +kernel
theorem dX6_table_78 : decode cX6_table 78 = .ok (.ireturn, 1) := by decide +kernel
theorem dX6_table_79 : decode cX6_table 79 = .ok (.aload_n 0, 1) := by decide +kernel
theorem dX6_table_80 : decode cX6_table 80 = .ok (.getfield 57, 3) := by decide +kernel
theorem dX6_table_83 : decode cX6_table 83 = .ok (.getfield 249, 3) := by decide +kernel
theorem dX6_table_86 : decode cX6_table 86 = .ok (.ireturn, 1) := by decide +kernel
theorem dX6_table_87 : decode cX6_table 87 = .ok (.aload_n 0, 1) := by decide +kernel
theorem dX6_table_88 : decode cX6_table 88 = .ok (.getfield 57, 3) := by decide +kernel
theorem dX6_table_91 : decode cX6_table 91 = .ok (.invokevirtual 252, 3) := by decide +kernel
theorem dX6_table_94 : decode cX6_table 94 = .ok (.ireturn, 1) := by decide +kernel
theorem dX6_table_95 : decode cX6_table 95 = .ok (.aload_n 0, 1) := by decide +kernel
theorem dX6_table_96 : decode cX6_table 96 = .ok (.getfield 57, 3) := by decide +kernel
theorem dX6_table_99 : decode cX6_table 99 = .ok (.getfield 217, 3) := by decide +kernel
theorem dX6_table_102 : decode cX6_table 102 = .ok (.ireturn, 1) := by decide +kernel
theorem dX6_dips_0 : decode cX6_dips 0 = .ok (.iload_n 1, 1) := by decide +kernel
theorem dX6_dips_1 : decode cX6_dips 1 = .ok (.iconst 1, 1) := by decide +kernel
theorem dX6_dips_2 : decode cX6_dips 2 = .ok (.if_icmp .lt 20, 3) := by decide +kernel
theorem dX6_dips_5 : decode cX6_dips 5 = .ok (.iload_n 1, 1) := by decide +kernel
theorem dX6_dips_6 : decode cX6_dips 6 = .ok (.bipush 90, 2) := by decide +kernel
theorem dX6_dips_8 : decode cX6_dips 8 = .ok (.if_icmp .gt 14, 3) := by decide +kernel
theorem dX6_dips_11 : decode cX6_dips 11 = .ok (.iload_n 2, 1) := by decide +kernel
theorem dX6_dips_12 : decode cX6_dips 12 = .ok (.ifCond .lt 10, 3) := by decide +kernel
theorem dX6_dips_15 : decode cX6_dips 15 = .ok (.iload_n 2, 1) := by decide +kernel
theorem dX6_dips_16 : decode cX6_dips 16 = .ok (.sipush 999, 3) := by decide +kernel
theorem dX6_dips_19 : decode cX6_dips 19 = .ok (.if_icmp .le 6, 3) := by decide +kernel
theorem dX6_dips_22 : decode cX6_dips 22 = .ok (.bipush (-2), 2) := by decide +kernel
theorem dX6_dips_24 : decode cX6_dips 24 = .ok (.ireturn, 1) := by decide +kernel
theorem dX6_dips_25 : decode cX6_dips 25 = .ok (.aload_n 0, 1) := by decide +kernel
theorem dX6_dips_26 : decode cX6_dips 26 = .ok (.aload_n 0, 1) := by decide +kernel
theorem dX6_dips_27 : decode cX6_dips 27 = .ok (.getfield 120, 3) := by decide +kernel
theorem dX6_dips_30 : decode cX6_dips 30 = .ok (.invokevirtual 171, 3) := by decide +kernel
theorem dX6_dips_33 : decode cX6_dips 33 = .ok (.bipush 30, 2) := by decide +kernel
theorem dX6_dips_35 : decode cX6_dips 35 = .ok (.istore_n 3, 1) := by decide +kernel
theorem dX6_dips_36 : decode cX6_dips 36 = .ok (.iload_n 3, 1) := by decide +kernel
theorem dX6_dips_37 : decode cX6_dips 37 = .ok (.iconst 1, 1) := by decide +kernel
theorem dX6_dips_38 : decode cX6_dips 38 = .ok (.if_icmp .lt 50, 3) := by decide +kernel
theorem dX6_dips_41 : decode cX6_dips 41 = .ok (.aload_n 0, 1) := by decide +kernel
theorem dX6_dips_42 : decode cX6_dips 42 = .ok (.getfield 61, 3) := by decide +kernel
theorem dX6_dips_45 : decode cX6_dips 45 = .ok (.aload_n 0, 1) := by decide +kernel
theorem dX6_dips_46 : decode cX6_dips 46 = .ok (.getfield 57, 3) := by decide +kernel
theorem dX6_dips_49 : decode cX6_dips 49 = .ok (.invokevirtual 209, 3) := by decide +kernel
theorem dX6_dips_52 : decode cX6_dips 52 = .ok (.aload_n 0, 1) := by decide +kernel
theorem dX6_dips_53 : decode cX6_dips 53 = .ok (.getfield 61, 3) := by decide +kernel
theorem dX6_dips_56 : decode cX6_dips 56 = .ok (.iload_n 1, 1) := by decide +kernel
theorem dX6_dips_57 : decode cX6_dips 57 = .ok (.iload_n 3, 1) := by decide +kernel
theorem dX6_dips_58 : decode cX6_dips 58 = .ok (.invokestatic 245, 3) := by decide +kernel
theorem dX6_dips_61 : decode cX6_dips 61 = .ok (.istore 4, 2) := by decide +kernel
theorem dX6_dips_63 : decode cX6_dips 63 = .ok (.iload 4, 2) := by decide +kernel
theorem dX6_dips_65 : decode cX6_dips 65 = .ok (.iload_n 1, 1) := by decide +kernel
theorem dX6_dips_66 : decode cX6_dips 66 = .ok (.if_icmp .ne 16, 3) := by decide +kernel
theorem dX6_dips_69 : decode cX6_dips 69 = .ok (.aload_n 0, 1) := by decide +kernel
theorem dX6_dips_70 : decode cX6_dips 70 = .ok (.getfield 61, 3) := by decide +kernel
theorem dX6_dips_73 : decode cX6_dips 73 = .ok (.getfield 249, 3) := by decide +kernel
theorem dX6_dips_76 : decode cX6_dips 76 = .ok (.iload_n 2, 1) := by decide +kernel
theorem dX6_dips_77 : decode cX6_dips 77 = .ok (.if_icmp .gt 5, 3) := by decide +kernel
theorem dX6_dips_80 : decode cX6_dips 80 = .ok (.iload_n 3, 1) := by decide +kernel
theorem dX6_dips_81 : decode cX6_dips 81 = .ok (.ireturn, 1) := by decide +kernel
theorem dX6_dips_82 : decode cX6_dips 82 = .ok (.iinc 3 (-1), 3) := by decide +kernel
theorem dX6_dips_85 : decode cX6_dips 85 = .ok (.goto (-49), 3) := by decide +kernel
theorem dX6_dips_88 : decode cX6_dips 88 = .ok (.iconst (-1), 1) := by decide +kernel
theorem dX6_dips_89 : decode cX6_dips 89 = .ok (.ireturn, 1) := by decide +kernel
theorem dX6_wick_0 : decode cX6_wick 0 = .ok (.iload_n 1, 1) := by decide +kernel
theorem dX6_wick_1 : decode cX6_wick 1 = .ok (.iconst 1, 1) := by decide +kernel
theorem dX6_wick_2 : decode cX6_wick 2 = .ok (.if_icmp .lt 16, 3) := by decide +kernel
theorem dX6_wick_5 : decode cX6_wick 5 = .ok (.iload_n 1, 1) := by decide +kernel
theorem dX6_wick_6 : decode cX6_wick 6 = .ok (.bipush 90, 2) := by decide +kernel
theorem dX6_wick_8 : decode cX6_wick 8 = .ok (.if_icmp .gt 10, 3) := by decide +kernel
theorem dX6_wick_11 : decode cX6_wick 11 = .ok (.iload_n 2, 1) := by decide +kernel
theorem dX6_wick_12 : decode cX6_wick 12 = .ok (.invokestatic 242, 3) := by decide +kernel
theorem dX6_wick_15 : decode cX6_wick 15 = .ok (.ifCond .ne 6, 3) := by decide +kernel
theorem dX6_wick_18 : decode cX6_wick 18 = .ok (.bipush (-2), 2) := by decide +kernel
theorem dX6_wick_20 : decode cX6_wick 20 = .ok (.ireturn, 1) := by decide +kernel
theorem dX6_wick_21 : decode cX6_wick 21 = .ok (.aload_n 0, 1) := by decide +kernel
theorem dX6_wick_22 : decode cX6_wick 22 = .ok (.aload_n 0, 1) := by decide +kernel
theorem dX6_wick_23 : decode cX6_wick 23 = .ok (.getfield 120, 3) := by decide +kernel
theorem dX6_wick_26 : decode cX6_wick 26 = .ok (.invokevirtual 171, 3) := by decide +kernel
theorem dX6_wick_29 : decode cX6_wick 29 = .ok (.iconst 0, 1) := by decide +kernel
theorem dX6_wick_30 : decode cX6_wick 30 = .ok (.istore_n 3, 1) := by decide +kernel
theorem dX6_wick_31 : decode cX6_wick 31 = .ok (.iconst 0, 1) := by decide +kernel
theorem dX6_wick_32 : decode cX6_wick 32 = .ok (.istore 4, 2) := by decide +kernel
theorem dX6_wick_34 : decode cX6_wick 34 = .ok (.iconst 0, 1) := by decide +kernel
theorem dX6_wick_35 : decode cX6_wick 35 = .ok (.istore 5, 2) := by decide +kernel
theorem dX6_wick_37 : decode cX6_wick 37 = .ok (.iload 5, 2) := by decide +kernel
theorem dX6_wick_39 : decode cX6_wick 39 = .ok (.getstatic 117, 3) := by decide +kernel
theorem dX6_wick_42 : decode cX6_wick 42 = .ok (.iconst 0, 1) := by decide +kernel
theorem dX6_wick_43 : decode cX6_wick 43 = .ok (.iaload, 1) := by decide +kernel
theorem dX6_wick_44 : decode cX6_wick 44 = .ok (.if_icmp .gt 54, 3) := by decide +kernel
theorem dX6_wick_47 : decode cX6_wick 47 = .ok (.aload_n 0, 1) := by decide +kernel
theorem dX6_wick_48 : decode cX6_wick 48 = .ok (.getfield 61, 3) := by decide +kernel
theorem dX6_wick_51 : decode cX6_wick 51 = .ok (.aload_n 0, 1) := by decide +kernel
theorem dX6_wick_52 : decode cX6_wick 52 = .ok (.getfield 57, 3) := by decide +kernel
theorem dX6_wick_55 : decode cX6_wick 55 = .ok (.invokevirtual 209, 3) := by decide +kernel
theorem dX6_wick_58 : decode cX6_wick 58 = .ok (.aload_n 0, 1) := by decide +kernel
theorem dX6_wick_59 : decode cX6_wick 59 = .ok (.getfield 61, 3) := by decide +kernel
theorem dX6_wick_62 : decode cX6_wick 62 = .ok (.iload 5, 2) := by decide +kernel
theorem dX6_wick_64 : decode cX6_wick 64 = .ok (.putfield 255, 3) := by decide +kernel
theorem dX6_wick_67 : decode cX6_wick 67 = .ok (.aload_n 0, 1) := by decide +kernel
theorem dX6_wick_68 : decode cX6_wick 68 = .ok (.getfield 61, 3) := by decide +kernel
theorem dX6_wick_71 : decode cX6_wick 71 = .ok (.iload_n 1, 1) := by decide +kernel
theorem dX6_wick_72 : decode cX6_wick 72 = .ok (.iload_n 2, 1) := by decide +kernel
theorem dX6_wick_73 : decode cX6_wick 73 = .ok (.invokestatic 245, 3) := by decide +kernel
theorem dX6_wick_76 : decode cX6_wick 76 = .ok (.istore 6, 2) := by decide +kernel
theorem dX6_wick_78 : decode cX6_wick 78 = .ok (.iload 6, 2) := by decide +kernel
theorem dX6_wick_80 : decode cX6_wick 80 = .ok (.iload 4, 2) := by decide +kernel
theorem dX6_wick_82 : decode cX6_wick 82 = .ok (.if_icmp .lt 10, 3) := by decide +kernel
theorem dX6_wick_85 : decode cX6_wick 85 = .ok (.iload 5, 2) := by decide +kernel
theorem dX6_wick_87 : decode cX6_wick 87 = .ok (.istore_n 3, 1) := by decide +kernel
theorem dX6_wick_88 : decode cX6_wick 88 = .ok (.iload 6, 2) := by decide +kernel
theorem dX6_wick_90 : decode cX6_wick 90 = .ok (.istore 4, 2) := by decide +kernel
theorem dX6_wick_92 : decode cX6_wick 92 = .ok (.iinc 5 1, 3) := by decide +kernel
theorem dX6_wick_95 : decode cX6_wick 95 = .ok (.goto (-58), 3) := by decide +kernel
theorem dX6_wick_98 : decode cX6_wick 98 = .ok (.iload_n 3, 1) := by decide +kernel
theorem dX6_wick_99 : decode cX6_wick 99 = .ok (.ireturn, 1) := by decide +kernel
theorem dX6_judge_0 : decode cX6_judge 0 = .ok (.aload_n 0, 1) := by decide +kernel
theorem dX6_judge_1 : decode cX6_judge 1 = .ok (.iload_n 1, 1) := by decide +kernel
theorem dX6_judge_2 : decode cX6_judge 2 = .ok (.invokevirtual 258, 3) := by decide +kernel
theorem dX6_judge_5 : decode cX6_judge 5 = .ok (.astore_n 2, 1) := by decide +kernel
theorem dX6_judge_6 : decode cX6_judge 6 = .ok (.aload_n 0, 1) := by decide +kernel
theorem dX6_judge_7 : decode cX6_judge 7 = .ok (.aload_n 2, 1) := by decide +kernel
theorem dX6_judge_8 : decode cX6_judge 8 = .ok (.invokevirtual 262, 3) := by decide +kernel
theorem dX6_judge_11 : decode cX6_judge 11 = .ok (.istore_n 3, 1) := by decide +kernel
theorem dX6_judge_12 : decode cX6_judge 12 = .ok (.aload_n 2, 1) := by decide +kernel
theorem dX6_judge_13 : decode cX6_judge 13 = .ok (.ifnull 7, 3) := by decide +kernel
theorem dX6_judge_16 : decode cX6_judge 16 = .ok (.iload_n 3, 1) := by decide +kernel
theorem dX6_judge_17 : decode cX6_judge 17 = .ok (.ifCond .eq 5, 3) := by decide +kernel
theorem dX6_judge_20 : decode cX6_judge 20 = .ok (.iload_n 3, 1) := by decide +kernel
theorem dX6_judge_21 : decode cX6_judge 21 = .ok (.ireturn, 1) := by decide +kernel
theorem dX6_judge_22 : decode cX6_judge 22 = .ok (.aload_n 0, 1) := by decide +kernel
theorem dX6_judge_23 : decode cX6_judge 23 = .ok (.invokevirtual 220, 3) := by decide +kernel
theorem dX6_judge_26 : decode cX6_judge 26 = .ok (.iconst 0, 1) := by decide +kernel
theorem dX6_judge_27 : decode cX6_judge 27 = .ok (.istore 4, 2) := by decide +kernel
theorem dX6_judge_29 : decode cX6_judge 29 = .ok (.iload 4, 2) := by decide +kernel
theorem dX6_judge_31 : decode cX6_judge 31 = .ok (.aload_n 0, 1) := by decide +kernel
theorem dX6_judge_32 : decode cX6_judge 32 = .ok (.getfield 120, 3) := by decide +kernel
theorem dX6_judge_35 : decode cX6_judge 35 = .ok (.if_icmp .ge 38, 3) := by decide +kernel
theorem dX6_judge_38 : decode cX6_judge 38 = .ok (.aload_n 0, 1) := by decide +kernel
theorem dX6_judge_39 : decode cX6_judge 39 = .ok (.iload 4, 2) := by decide +kernel
theorem dX6_judge_41 : decode cX6_judge 41 = .ok (.iload 4, 2) := by decide +kernel
theorem dX6_judge_43 : decode cX6_judge 43 = .ok (.iconst 1, 1) := by decide +kernel
theorem dX6_judge_44 : decode cX6_judge 44 = .ok (.iadd, 1) := by decide +kernel
theorem dX6_judge_45 : decode cX6_judge 45 = .ok (.invokevirtual 223, 3) := by decide +kernel
theorem dX6_judge_48 : decode cX6_judge 48 = .ok (.aload_n 2, 1) := by decide +kernel
theorem dX6_judge_49 : decode cX6_judge 49 = .ok (.iload 4, 2) := by decide +kernel
theorem dX6_judge_51 : decode cX6_judge 51 = .ok (.invokevirtual 266, 3) := by decide +kernel
theorem dX6_judge_54 : decode cX6_judge 54 = .ok (.aload_n 0, 1) := by decide +kernel
theorem dX6_judge_55 : decode cX6_judge 55 = .ok (.getfield 57, 3) := by decide +kernel
theorem dX6_judge_58 : decode cX6_judge 58 = .ok (.invokevirtual 267, 3) := by decide +kernel
theorem dX6_judge_61 : decode cX6_judge 61 = .ok (.if_icmp .eq 6, 3) := by decide +kernel
theorem dX6_judge_64 : decode cX6_judge 64 = .ok (.iload 4, 2) := by decide +kernel
theorem dX6_judge_66 : decode cX6_judge 66 = .ok (.ireturn, 1) := by decide +kernel
theorem dX6_judge_67 : decode cX6_judge 67 = .ok (.iinc 4 1, 3) := by decide +kernel
theorem dX6_judge_70 : decode cX6_judge 70 = .ok (.goto (-41), 3) := by decide +kernel
theorem dX6_judge_73 : decode cX6_judge 73 = .ok (.iconst (-1), 1) := by decide +kernel
theorem dX6_judge_74 : decode cX6_judge 74 = .ok (.ireturn, 1) := by decide +kernel
theorem dX6_film_0 : decode cX6_film 0 = .ok (.aload_n 0, 1) := by decide +kernel
theorem dX6_film_1 : decode cX6_film 1 = .ok (.iload_n 1, 1) := by decide +kernel
theorem dX6_film_2 : decode cX6_film 2 = .ok (.invokevirtual 258, 3) := by decide +kernel
theorem dX6_film_5 : decode cX6_film 5 = .ok (.astore_n 2, 1) := by decide +kernel
theorem dX6_film_6 : decode cX6_film 6 = .ok (.aload_n 2, 1) := by decide +kernel
theorem dX6_film_7 : decode cX6_film 7 = .ok (.ifnonnull 6, 3) := by decide +kernel
theorem dX6_film_10 : decode cX6_film 10 = .ok (.bipush (-2), 2) := by decide +kernel
theorem dX6_film_12 : decode cX6_film 12 = .ok (.ireturn, 1) := by decide +kernel
theorem dX6_film_13 : decode cX6_film 13 = .ok (.aload_n 2, 1) := by decide +kernel
theorem dX6_film_14 : decode cX6_film 14 = .ok (.iconst 2, 1) := by decide +kernel
theorem dX6_film_15 : decode cX6_film 15 = .ok (.aload_n 0, 1) := by decide +kernel
theorem dX6_film_16 : decode cX6_film 16 = .ok (.getfield 120, 3) := by decide +kernel
theorem dX6_film_19 : decode cX6_film 19 = .ok (.invokevirtual 270, 3) := by decide +kernel
theorem dX6_film_22 : decode cX6_film 22 = .ok (.aload_n 0, 1) := by decide +kernel
theorem dX6_film_23 : decode cX6_film 23 = .ok (.invokevirtual 220, 3) := by decide +kernel
theorem dX6_film_26 : decode cX6_film 26 = .ok (.iconst 0, 1) := by decide +kernel
theorem dX6_film_27 : decode cX6_film 27 = .ok (.istore_n 3, 1) := by decide +kernel
theorem dX6_film_28 : decode cX6_film 28 = .ok (.iload_n 3, 1) := by decide +kernel
theorem dX6_film_29 : decode cX6_film 29 = .ok (.aload_n 0, 1) := by decide +kernel
theorem dX6_film_30 : decode cX6_film 30 = .ok (.getfield 120, 3) := by decide +kernel
theorem dX6_film_33 : decode cX6_film 33 = .ok (.if_icmp .ge 29, 3) := by decide +kernel
theorem dX6_film_36 : decode cX6_film 36 = .ok (.aload_n 0, 1) := by decide +kernel
theorem dX6_film_37 : decode cX6_film 37 = .ok (.iload_n 3, 1) := by decide +kernel
theorem dX6_film_38 : decode cX6_film 38 = .ok (.iload_n 3, 1) := by decide +kernel
theorem dX6_film_39 : decode cX6_film 39 = .ok (.iconst 1, 1) := by decide +kernel
theorem dX6_film_40 : decode cX6_film 40 = .ok (.iadd, 1) := by decide +kernel
theorem dX6_film_41 : decode cX6_film 41 = .ok (.invokevirtual 223, 3) := by decide +kernel
theorem dX6_film_44 : decode cX6_film 44 = .ok (.aload_n 2, 1) := by decide +kernel
theorem dX6_film_45 : decode cX6_film 45 = .ok (.iload_n 3, 1) := by decide +kernel
theorem dX6_film_46 : decode cX6_film 46 = .ok (.aload_n 0, 1) := by decide +kernel
theorem dX6_film_47 : decode cX6_film 47 = .ok (.getfield 57, 3) := by decide +kernel
theorem dX6_film_50 : decode cX6_film 50 = .ok (.getfield 217, 3) := by decide +kernel
theorem dX6_film_53 : decode cX6_film 53 = .ok (.invokevirtual 272, 3) := by decide +kernel
theorem dX6_film_56 : decode cX6_film 56 = .ok (.iinc 3 1, 3) := by decide +kernel
theorem dX6_film_59 : decode cX6_film 59 = .ok (.goto (-31), 3) := by decide +kernel
theorem dX6_film_62 : decode cX6_film 62 = .ok (.aload_n 0, 1) := by decide +kernel
theorem dX6_film_63 : decode cX6_film 63 = .ok (.getfield 120, 3) := by decide +kernel
theorem dX6_film_66 : decode cX6_film 66 = .ok (.ireturn, 1) := by decide +kernel
theorem dX6_ages_0 : decode cX6_ages 0 = .ok (.aload_n 0, 1) := by decide +kernel
theorem dX6_ages_1 : decode cX6_ages 1 = .ok (.iload_n 1, 1) := by decide +kernel
theorem dX6_ages_2 : decode cX6_ages 2 = .ok (.invokevirtual 101, 3) := by decide +kernel
theorem dX6_ages_5 : decode cX6_ages 5 = .ok (.astore_n 3, 1) := by decide +kernel
theorem dX6_ages_6 : decode cX6_ages 6 = .ok (.aload_n 0, 1) := by decide +kernel
theorem dX6_ages_7 : decode cX6_ages 7 = .ok (.iload_n 2, 1) := by decide +kernel
theorem dX6_ages_8 : decode cX6_ages 8 = .ok (.invokevirtual 258, 3) := by decide +kernel
theorem dX6_ages_11 : decode cX6_ages 11 = .ok (.astore 4, 2) := by decide +kernel
theorem dX6_ages_13 : decode cX6_ages 13 = .ok (.aload_n 3, 1) := by decide +kernel
theorem dX6_ages_14 : decode cX6_ages 14 = .ok (.ifnull 17, 3) := by decide +kernel
theorem dX6_ages_17 : decode cX6_ages 17 = .ok (.aload 4, 2) := by decide +kernel
theorem dX6_ages_19 : decode cX6_ages 19 = .ok (.ifnull 12, 3) := by decide +kernel
theorem dX6_ages_22 : decode cX6_ages 22 = .ok (.aload_n 0, 1) := by decide +kernel
theorem dX6_ages_23 : decode cX6_ages 23 = .ok (.aload 4, 2) := by decide +kernel
theorem dX6_ages_25 : decode cX6_ages 25 = .ok (.invokevirtual 262, 3) := by decide +kernel
theorem dX6_ages_28 : decode cX6_ages 28 = .ok (.ifCond .eq 7, 3) := by decide +kernel
theorem dX6_ages_31 : decode cX6_ages 31 = .ok (.ldc2_w 194, 3) := by decide +kernel
theorem dX6_ages_34 : decode cX6_ages 34 = .ok (.lreturn, 1) := by decide +kernel
theorem dX6_ages_35 : decode cX6_ages 35 = .ok (.aload_n 3, 1) := by decide +kernel
theorem dX6_ages_36 : decode cX6_ages 36 = .ok (.iconst 0, 1) := by decide +kernel
theorem dX6_ages_37 : decode cX6_ages 37 = .ok (.invokevirtual 109, 3) := by decide +kernel
theorem dX6_ages_40 : decode cX6_ages 40 = .ok (.istore 5, 2) := by decide +kernel
theorem dX6_ages_42 : decode cX6_ages 42 = .ok (.lconst 0, 1) := by decide +kernel
theorem dX6_ages_43 : decode cX6_ages 43 = .ok (.lstore 6, 2) := by decide +kernel
theorem dX6_ages_45 : decode cX6_ages 45 = .ok (.iconst 1, 1) := by decide +kernel
theorem dX6_ages_46 : decode cX6_ages 46 = .ok (.istore 8, 2) := by decide +kernel
theorem dX6_ages_48 : decode cX6_ages 48 = .ok (.iload 8, 2) := by decide +kernel
theorem dX6_ages_50 : decode cX6_ages 50 = .ok (.bipush 60, 2) := by decide +kernel
theorem dX6_ages_52 : decode cX6_ages 52 = .ok (.if_icmp .gt 38, 3) := by decide +kernel
theorem dX6_ages_55 : decode cX6_ages 55 = .ok (.aload_n 3, 1) := by decide +kernel
theorem dX6_ages_56 : decode cX6_ages 56 = .ok (.iconst 0, 1) := by decide +kernel
theorem dX6_ages_57 : decode cX6_ages 57 = .ok (.iload 8, 2) := by decide +kernel
theorem dX6_ages_59 : decode cX6_ages 59 = .ok (.invokevirtual 105, 3) := by decide +kernel
theorem dX6_ages_62 : decode cX6_ages 62 = .ok (.aload_n 0, 1) := by decide +kernel
theorem dX6_ages_63 : decode cX6_ages 63 = .ok (.aload 4, 2) := by decide +kernel
theorem dX6_ages_65 : decode cX6_ages 65 = .ok (.aload_n 0, 1) := by decide +kernel
theorem dX6_ages_66 : decode cX6_ages 66 = .ok (.getfield 123, 3) := by decide +kernel
theorem dX6_ages_69 : decode cX6_ages 69 = .ok (.invokevirtual 273, 3) := by decide +kernel
theorem dX6_ages_72 : decode cX6_ages 72 = .ok (.ifCond .eq 12, 3) := by decide +kernel
theorem dX6_ages_75 : decode cX6_ages 75 = .ok (.lload 6, 2) := by decide +kernel
theorem dX6_ages_77 : decode cX6_ages 77 = .ok (.lconst 1, 1) := by decide +kernel
theorem dX6_ages_78 : decode cX6_ages 78 = .ok (.iload 8, 2) := by decide +kernel
theorem dX6_ages_80 : decode cX6_ages 80 = .ok (.lshl, 1) := by decide +kernel
theorem dX6_ages_81 : decode cX6_ages 81 = .ok (.lor, 1) := by decide +kernel
theorem dX6_ages_82 : decode cX6_ages 82 = .ok (.lstore 6, 2) := by decide +kernel
theorem dX6_ages_84 : decode cX6_ages 84 = .ok (.iinc 8 1, 3) := by decide +kernel
theorem dX6_ages_87 : decode cX6_ages 87 = .ok (.goto (-39), 3) := by decide +kernel
theorem dX6_ages_90 : decode cX6_ages 90 = .ok (.aload_n 3, 1) := by decide +kernel
theorem dX6_ages_91 : decode cX6_ages 91 = .ok (.iconst 0, 1) := by decide +kernel
theorem dX6_ages_92 : decode cX6_ages 92 = .ok (.iload 5, 2) := by decide +kernel
theorem dX6_ages_94 : decode cX6_ages 94 = .ok (.invokevirtual 105, 3) := by decide +kernel
theorem dX6_ages_97 : decode cX6_ages 97 = .ok (.lload 6, 2) := by decide +kernel
theorem dX6_ages_99 : decode cX6_ages 99 = .ok (.lreturn, 1) := by decide +kernel
theorem dX6_which_0 : decode cX6_which 0 = .ok (.aload_n 0, 1) := by decide +kernel
theorem dX6_which_1 : decode cX6_which 1 = .ok (.iload_n 1, 1) := by decide +kernel
theorem dX6_which_2 : decode cX6_which 2 = .ok (.invokevirtual 258, 3) := by decide +kernel
theorem dX6_which_5 : decode cX6_which 5 = .ok (.astore_n 2, 1) := by decide +kernel
theorem dX6_which_6 : decode cX6_which 6 = .ok (.aload_n 0, 1) := by decide +kernel
theorem dX6_which_7 : decode cX6_which 7 = .ok (.aload_n 2, 1) := by decide +kernel
theorem dX6_which_8 : decode cX6_which 8 = .ok (.invokevirtual 262, 3) := by decide +kernel
theorem dX6_which_11 : decode cX6_which 11 = .ok (.istore_n 3, 1) := by decide +kernel
theorem dX6_which_12 : decode cX6_which 12 = .ok (.aload_n 2, 1) := by decide +kernel
theorem dX6_which_13 : decode cX6_which 13 = .ok (.ifnull 7, 3) := by decide +kernel
theorem dX6_which_16 : decode cX6_which 16 = .ok (.iload_n 3, 1) := by decide +kernel
theorem dX6_which_17 : decode cX6_which 17 = .ok (.ifCond .eq 5, 3) := by decide +kernel
theorem dX6_which_20 : decode cX6_which 20 = .ok (.iload_n 3, 1) := by decide +kernel
theorem dX6_which_21 : decode cX6_which 21 = .ok (.ireturn, 1) := by decide +kernel
theorem dX6_which_22 : decode cX6_which 22 = .ok (.iconst 0, 1) := by decide +kernel
theorem dX6_which_23 : decode cX6_which 23 = .ok (.istore 4, 2) := by decide +kernel
theorem dX6_which_25 : decode cX6_which 25 = .ok (.iconst 0, 1) := by decide +kernel
theorem dX6_which_26 : decode cX6_which 26 = .ok (.istore 5, 2) := by decide +kernel
theorem dX6_which_28 : decode cX6_which 28 = .ok (.iload 5, 2) := by decide +kernel
theorem dX6_which_30 : decode cX6_which 30 = .ok (.aload_n 0, 1) := by decide +kernel
theorem dX6_which_31 : decode cX6_which 31 = .ok (.getfield 91, 3) := by decide +kernel
theorem dX6_which_34 : decode cX6_which 34 = .ok (.if_icmp .ge 28, 3) := by decide +kernel
theorem dX6_which_37 : decode cX6_which 37 = .ok (.aload_n 0, 1) := by decide +kernel
theorem dX6_which_38 : decode cX6_which 38 = .ok (.aload_n 2, 1) := by decide +kernel
theorem dX6_which_39 : decode cX6_which 39 = .ok (.iload 5, 2) := by decide +kernel
theorem dX6_which_41 : decode cX6_which 41 = .ok (.invokevirtual 273, 3) := by decide +kernel
theorem dX6_which_44 : decode cX6_which 44 = .ok (.ifCond .eq 12, 3) := by decide +kernel
theorem dX6_which_47 : decode cX6_which 47 = .ok (.iload 4, 2) := by decide +kernel
theorem dX6_which_49 : decode cX6_which 49 = .ok (.iconst 1, 1) := by decide +kernel
theorem dX6_which_50 : decode cX6_which 50 = .ok (.iload 5, 2) := by decide +kernel
theorem dX6_which_52 : decode cX6_which 52 = .ok (.ishl, 1) := by decide +kernel
theorem dX6_which_53 : decode cX6_which 53 = .ok (.ior, 1) := by decide +kernel
theorem dX6_which_54 : decode cX6_which 54 = .ok (.istore 4, 2) := by decide +kernel
theorem dX6_which_56 : decode cX6_which 56 = .ok (.iinc 5 1, 3) := by decide +kernel
theorem dX6_which_59 : decode cX6_which 59 = .ok (.goto (-31), 3) := by decide +kernel
theorem dX6_which_62 : decode cX6_which 62 = .ok (.iload 4, 2) := by decide +kernel
theorem dX6_which_64 : decode cX6_which 64 = .ok (.ireturn, 1) := by decide +kernel
theorem dX6_drawn_0 : decode cX6_drawn 0 = .ok (.aload_n 0, 1) := by decide +kernel
theorem dX6_drawn_1 : decode cX6_drawn 1 = .ok (.iload_n 1, 1) := by decide +kernel
theorem dX6_drawn_2 : decode cX6_drawn 2 = .ok (.invokevirtual 165, 3) := by decide +kernel
theorem dX6_drawn_5 : decode cX6_drawn 5 = .ok (.ifCond .ne 6, 3) := by decide +kernel
theorem dX6_drawn_8 : decode cX6_drawn 8 = .ok (.bipush (-5), 2) := by decide +kernel
theorem dX6_drawn_10 : decode cX6_drawn 10 = .ok (.ireturn, 1) := by decide +kernel
theorem dX6_drawn_11 : decode cX6_drawn 11 = .ok (.iload_n 2, 1) := by decide +kernel
theorem dX6_drawn_12 : decode cX6_drawn 12 = .ok (.invokestatic 277, 3) := by decide +kernel
theorem dX6_drawn_15 : decode cX6_drawn 15 = .ok (.ifCond .eq 10, 3) := by decide +kernel
theorem dX6_drawn_18 : decode cX6_drawn 18 = .ok (.iload_n 3, 1) := by decide +kernel
theorem dX6_drawn_19 : decode cX6_drawn 19 = .ok (.invokestatic 168, 3) := by decide +kernel
theorem dX6_drawn_22 : decode cX6_drawn 22 = .ok (.ifCond .ne 6, 3) := by decide +kernel
theorem dX6_drawn_25 : decode cX6_drawn 25 = .ok (.bipush (-7), 2) := by decide +kernel
theorem dX6_drawn_27 : decode cX6_drawn 27 = .ok (.ireturn, 1) := by decide +kernel
theorem dX6_drawn_28 : decode cX6_drawn 28 = .ok (.aload_n 0, 1) := by decide +kernel
theorem dX6_drawn_29 : decode cX6_drawn 29 = .ok (.iload_n 1, 1) := by decide +kernel
theorem dX6_drawn_30 : decode cX6_drawn 30 = .ok (.iload_n 2, 1) := by decide +kernel
theorem dX6_drawn_31 : decode cX6_drawn 31 = .ok (.invokevirtual 280, 3) := by decide +kernel
theorem dX6_drawn_34 : decode cX6_drawn 34 = .ok (.aload_n 0, 1) := by decide +kernel
theorem dX6_drawn_35 : decode cX6_drawn 35 = .ok (.getfield 57, 3) := by decide +kernel
theorem dX6_drawn_38 : decode cX6_drawn 38 = .ok (.iload_n 3, 1) := by decide +kernel
theorem dX6_drawn_39 : decode cX6_drawn 39 = .ok (.invokevirtual 174, 3) := by decide +kernel
theorem dX6_drawn_42 : decode cX6_drawn 42 = .ok (.ireturn, 1) := by decide +kernel
theorem dX6_chance_0 : decode cX6_chance 0 = .ok (.iload_n 1, 1) := by decide +kernel
theorem dX6_chance_1 : decode cX6_chance 1 = .ok (.invokestatic 277, 3) := by decide +kernel
theorem dX6_chance_4 : decode cX6_chance 4 = .ok (.ifCond .eq 21, 3) := by decide +kernel
theorem dX6_chance_7 : decode cX6_chance 7 = .ok (.iload_n 2, 1) := by decide +kernel
theorem dX6_chance_8 : decode cX6_chance 8 = .ok (.iconst 1, 1) := by decide +kernel
theorem dX6_chance_9 : decode cX6_chance 9 = .ok (.if_icmp .lt 16, 3) := by decide +kernel
theorem dX6_chance_12 : decode cX6_chance 12 = .ok (.iload_n 2, 1) := by decide +kernel
theorem dX6_chance_13 : decode cX6_chance 13 = .ok (.bipush 20, 2) := by decide +kernel
theorem dX6_chance_15 : decode cX6_chance 15 = .ok (.if_icmp .gt 10, 3) := by decide +kernel
theorem dX6_chance_18 : decode cX6_chance 18 = .ok (.iload_n 3, 1) := by decide +kernel
theorem dX6_chance_19 : decode cX6_chance 19 = .ok (.invokestatic 175, 3) := by decide +kernel
theorem dX6_chance_22 : decode cX6_chance 22 = .ok (.ifCond .ne 7, 3) := by decide +kernel
theorem dX6_chance_25 : decode cX6_chance 25 = .ok (.ldc2_w 194, 3) := by decide +kernel
theorem dX6_chance_28 : decode cX6_chance 28 = .ok (.lreturn, 1) := by decide +kernel
theorem dX6_chance_29 : decode cX6_chance 29 = .ok (.iconst 0, 1) := by decide +kernel
theorem dX6_chance_30 : decode cX6_chance 30 = .ok (.istore 4, 2) := by decide +kernel
theorem dX6_chance_32 : decode cX6_chance 32 = .ok (.iconst 0, 1) := by decide +kernel
theorem dX6_chance_33 : decode cX6_chance 33 = .ok (.istore 5, 2) := by decide +kernel
theorem dX6_chance_35 : decode cX6_chance 35 = .ok (.iload 5, 2) := by decide +kernel
theorem dX6_chance_37 : decode cX6_chance 37 = .ok (.iload_n 2, 1) := by decide +kernel
theorem dX6_chance_38 : decode cX6_chance 38 = .ok (.if_icmp .ge 40, 3) := by decide +kernel
theorem dX6_chance_41 : decode cX6_chance 41 = .ok (.aload_n 0, 1) := by decide +kernel
theorem dX6_chance_42 : decode cX6_chance 42 = .ok (.aload_n 0, 1) := by decide +kernel
theorem dX6_chance_43 : decode cX6_chance 43 = .ok (.getfield 120, 3) := by decide +kernel
theorem dX6_chance_46 : decode cX6_chance 46 = .ok (.ldc_w 283, 3) := by decide +kernel
theorem dX6_chance_49 : decode cX6_chance 49 = .ok (.iload_n 1, 1) := by decide +kernel
theorem dX6_chance_50 : decode cX6_chance 50 = .ok (.iload 5, 2) := by decide +kernel
theorem dX6_chance_52 : decode cX6_chance 52 = .ok (.iadd, 1) := by decide +kernel
theorem dX6_chance_53 : decode cX6_chance 53 = .ok (.invokestatic 196, 3) := by decide +kernel
theorem dX6_chance_56 : decode cX6_chance 56 = .ok (.invokevirtual 280, 3) := by decide +kernel
theorem dX6_chance_59 : decode cX6_chance 59 = .ok (.aload_n 0, 1) := by decide +kernel
theorem dX6_chance_60 : decode cX6_chance 60 = .ok (.getfield 57, 3) := by decide +kernel
theorem dX6_chance_63 : decode cX6_chance 63 = .ok (.invokevirtual 184, 3) := by decide +kernel
theorem dX6_chance_66 : decode cX6_chance 66 = .ok (.ifCond .eq 6, 3) := by decide +kernel
theorem dX6_chance_69 : decode cX6_chance 69 = .ok (.iinc 4 1, 3) := by decide +kernel
theorem dX6_chance_72 : decode cX6_chance 72 = .ok (.iinc 5 1, 3) := by decide +kernel
theorem dX6_chance_75 : decode cX6_chance 75 = .ok (.goto (-40), 3) := by decide +kernel
theorem dX6_chance_78 : decode cX6_chance 78 = .ok (.iload 4, 2) := by decide +kernel
theorem dX6_chance_80 : decode cX6_chance 80 = .ok (.iload_n 2, 1) := by decide +kernel
theorem dX6_chance_81 : decode cX6_chance 81 = .ok (.iload_n 3, 1) := by decide +kernel
theorem dX6_chance_82 : decode cX6_chance 82 = .ok (.invokestatic 205, 3) := by decide +kernel
theorem dX6_chance_85 : decode cX6_chance 85 = .ok (.i2l, 1) := by decide +kernel
theorem dX6_chance_86 : decode cX6_chance 86 = .ok (.lreturn, 1) := by decide +kernel
theorem dX6_image_0 : decode cX6_image 0 = .ok (.aload_n 0, 1) := by decide +kernel
theorem dX6_image_1 : decode cX6_image 1 = .ok (.getfield 11, 3) := by decide +kernel
theorem dX6_image_4 : decode cX6_image 4 = .ok (.aload_n 0, 1) := by decide +kernel
theorem dX6_image_5 : decode cX6_image 5 = .ok (.getfield 44, 3) := by decide +kernel
theorem dX6_image_8 : decode cX6_image 8 = .ok (.aload_n 0, 1) := by decide +kernel
theorem dX6_image_9 : decode cX6_image 9 = .ok (.getfield 98, 3) := by decide +kernel
theorem dX6_image_12 : decode cX6_image 12 = .ok (.invokestatic 284, 3) := by decide +kernel
theorem dX6_image_15 : decode cX6_image 15 = .ok (.aload_n 0, 1) := by decide +kernel
theorem dX6_image_16 : decode cX6_image 16 = .ok (.getfield 27, 3) := by decide +kernel
theorem dX6_image_19 : decode cX6_image 19 = .ok (.iconst 0, 1) := by decide +kernel
theorem dX6_image_20 : decode cX6_image 20 = .ok (.aload_n 0, 1) := by decide +kernel
theorem dX6_image_21 : decode cX6_image 21 = .ok (.getfield 51, 3) := by decide +kernel
theorem dX6_image_24 : decode cX6_image 24 = .ok (.iconst 0, 1) := by decide +kernel
theorem dX6_image_25 : decode cX6_image 25 = .ok (.aload_n 0, 1) := by decide +kernel
theorem dX6_image_26 : decode cX6_image 26 = .ok (.getfield 27, 3) := by decide +kernel
theorem dX6_image_29 : decode cX6_image 29 = .ok (.arraylength, 1) := by decide +kernel
theorem dX6_image_30 : decode cX6_image 30 = .ok (.invokestatic 288, 3) := by decide +kernel
theorem dX6_image_33 : decode cX6_image 33 = .ok (.aload_n 0, 1) := by decide +kernel
theorem dX6_image_34 : decode cX6_image 34 = .ok (.aload_n 0, 1) := by decide +kernel
theorem dX6_image_35 : decode cX6_image 35 = .ok (.getfield 123, 3) := by decide +kernel
theorem dX6_image_38 : decode cX6_image 38 = .ok (.putfield 294, 3) := by decide +kernel
theorem dX6_image_41 : decode cX6_image 41 = .ok (.aload_n 0, 1) := by decide +kernel
theorem dX6_image_42 : decode cX6_image 42 = .ok (.aload_n 0, 1) := by decide +kernel
theorem dX6_image_43 : decode cX6_image 43 = .ok (.getfield 98, 3) := by decide +kernel
theorem dX6_image_46 : decode cX6_image 46 = .ok (.putfield 47, 3) := by decide +kernel
theorem dX6_image_49 : decode cX6_image 49 = .ok (.aload_n 0, 1) := by decide +kernel
theorem dX6_image_50 : decode cX6_image 50 = .ok (.getfield 98, 3) := by decide +kernel
theorem dX6_image_53 : decode cX6_image 53 = .ok (.ireturn, 1) := by decide +kernel
theorem dX6_back_0 : decode cX6_back 0 = .ok (.aload_n 0, 1) := by decide +kernel
theorem dX6_back_1 : decode cX6_back 1 = .ok (.getfield 47, 3) := by decide +kernel
theorem dX6_back_4 : decode cX6_back 4 = .ok (.iconst (-1), 1) := by decide +kernel
theorem dX6_back_5 : decode cX6_back 5 = .ok (.if_icmp .ne 6, 3) := by decide +kernel
theorem dX6_back_8 : decode cX6_back 8 = .ok (.bipush (-3), 2) := by decide +kernel
theorem dX6_back_10 : decode cX6_back 10 = .ok (.ireturn, 1) := by decide +kernel
theorem dX6_back_11 : decode cX6_back 11 = .ok (.aload_n 0, 1) := by decide +kernel
theorem dX6_back_12 : decode cX6_back 12 = .ok (.getfield 44, 3) := by decide +kernel
theorem dX6_back_15 : decode cX6_back 15 = .ok (.aload_n 0, 1) := by decide +kernel
theorem dX6_back_16 : decode cX6_back 16 = .ok (.getfield 11, 3) := by decide +kernel
theorem dX6_back_19 : decode cX6_back 19 = .ok (.aload_n 0, 1) := by decide +kernel
theorem dX6_back_20 : decode cX6_back 20 = .ok (.getfield 47, 3) := by decide +kernel
theorem dX6_back_23 : decode cX6_back 23 = .ok (.invokestatic 284, 3) := by decide +kernel
theorem dX6_back_26 : decode cX6_back 26 = .ok (.aload_n 0, 1) := by decide +kernel
theorem dX6_back_27 : decode cX6_back 27 = .ok (.getfield 51, 3) := by decide +kernel
theorem dX6_back_30 : decode cX6_back 30 = .ok (.iconst 0, 1) := by decide +kernel
theorem dX6_back_31 : decode cX6_back 31 = .ok (.aload_n 0, 1) := by decide +kernel
theorem dX6_back_32 : decode cX6_back 32 = .ok (.getfield 27, 3) := by decide +kernel
theorem dX6_back_35 : decode cX6_back 35 = .ok (.iconst 0, 1) := by decide +kernel
theorem dX6_back_36 : decode cX6_back 36 = .ok (.aload_n 0, 1) := by decide +kernel
theorem dX6_back_37 : decode cX6_back 37 = .ok (.getfield 27, 3) := by decide +kernel
theorem dX6_back_40 : decode cX6_back 40 = .ok (.arraylength, 1) := by decide +kernel
theorem dX6_back_41 : decode cX6_back 41 = .ok (.invokestatic 288, 3) := by decide +kernel
theorem dX6_back_44 : decode cX6_back 44 = .ok (.aload_n 0, 1) := by decide +kernel
theorem dX6_back_45 : decode cX6_back 45 = .ok (.aload_n 0, 1) := by decide +kernel
theorem dX6_back_46 : decode cX6_back 46 = .ok (.getfield 294, 3) := by decide +kernel
theorem dX6_back_49 : decode cX6_back 49 = .ok (.putfield 123, 3) := by decide +kernel
theorem dX6_back_52 : decode cX6_back 52 = .ok (.aload_n 0, 1) := by decide +kernel
theorem dX6_back_53 : decode cX6_back 53 = .ok (.getfield 98, 3) := by decide +kernel
theorem dX6_back_56 : decode cX6_back 56 = .ok (.ireturn, 1) := by decide +kernel
theorem dX6_sheet_0 : decode cX6_sheet 0 = .ok (.aload_n 0, 1) := by decide +kernel
theorem dX6_sheet_1 : decode cX6_sheet 1 = .ok (.iload_n 1, 1) := by decide +kernel
theorem dX6_sheet_2 : decode cX6_sheet 2 = .ok (.invokevirtual 258, 3) := by decide +kernel
theorem dX6_sheet_5 : decode cX6_sheet 5 = .ok (.astore 4, 2) := by decide +kernel
theorem dX6_sheet_7 : decode cX6_sheet 7 = .ok (.aload 4, 2) := by decide +kernel
theorem dX6_sheet_9 : decode cX6_sheet 9 = .ok (.ifnull 13, 3) := by decide +kernel
theorem dX6_sheet_12 : decode cX6_sheet 12 = .ok (.iload_n 2, 1) := by decide +kernel
theorem dX6_sheet_13 : decode cX6_sheet 13 = .ok (.iconst (-1), 1) := by decide +kernel
theorem dX6_sheet_14 : decode cX6_sheet 14 = .ok (.if_icmp .lt 8, 3) := by decide +kernel
theorem dX6_sheet_17 : decode cX6_sheet 17 = .ok (.iload_n 2, 1) := by decide +kernel
theorem dX6_sheet_18 : decode cX6_sheet 18 = .ok (.iconst 2, 1) := by decide +kernel
theorem dX6_sheet_19 : decode cX6_sheet 19 = .ok (.if_icmp .le 6, 3) := by decide +kernel
theorem dX6_sheet_22 : decode cX6_sheet 22 = .ok (.bipush (-2), 2) := by decide +kernel
theorem dX6_sheet_24 : decode cX6_sheet 24 = .ok (.ireturn, 1) := by decide +kernel
theorem dX6_sheet_25 : decode cX6_sheet 25 = .ok (.iload_n 2, 1) := by decide +kernel
theorem dX6_sheet_26 : decode cX6_sheet 26 = .ok (.iconst (-1), 1) := by decide +kernel
theorem dX6_sheet_27 : decode cX6_sheet 27 = .ok (.if_icmp .ne 12, 3) := by decide +kernel
theorem dX6_sheet_30 : decode cX6_sheet 30 = .ok (.aload 4, 2) := by decide +kernel
theorem dX6_sheet_32 : decode cX6_sheet 32 = .ok (.iconst (-1), 1) := by decide +kernel
theorem dX6_sheet_33 : decode cX6_sheet 33 = .ok (.iconst 0, 1) := by decide +kernel
theorem dX6_sheet_34 : decode cX6_sheet 34 = .ok (.invokevirtual 270, 3) := by decide +kernel
theorem dX6_sheet_37 : decode cX6_sheet 37 = .ok (.iconst 1, 1) := by decide +kernel
theorem dX6_sheet_38 : decode cX6_sheet 38 = .ok (.ireturn, 1) := by decide +kernel
theorem dX6_sheet_39 : decode cX6_sheet 39 = .ok (.iload_n 3, 1) := by decide +kernel
theorem dX6_sheet_40 : decode cX6_sheet 40 = .ok (.bipush 40, 2) := by decide +kernel
theorem dX6_sheet_42 : decode cX6_sheet 42 = .ok (.if_icmp .le 6, 3) := by decide +kernel
theorem dX6_sheet_45 : decode cX6_sheet 45 = .ok (.bipush (-2), 2) := by decide +kernel
theorem dX6_sheet_47 : decode cX6_sheet 47 = .ok (.ireturn, 1) := by decide +kernel
theorem dX6_sheet_48 : decode cX6_sheet 48 = .ok (.iload_n 3, 1) := by decide +kernel
theorem dX6_sheet_49 : decode cX6_sheet 49 = .ok (.ifCond .ge 6, 3) := by decide +kernel
theorem dX6_sheet_52 : decode cX6_sheet 52 = .ok (.bipush (-14), 2) := by decide +kernel
theorem dX6_sheet_54 : decode cX6_sheet 54 = .ok (.ireturn, 1) := by decide +kernel
theorem dX6_sheet_55 : decode cX6_sheet 55 = .ok (.aload 4, 2) := by decide +kernel
theorem dX6_sheet_57 : decode cX6_sheet 57 = .ok (.iload_n 2, 1) := by decide +kernel
theorem dX6_sheet_58 : decode cX6_sheet 58 = .ok (.iload_n 3, 1) := by decide +kernel
theorem dX6_sheet_59 : decode cX6_sheet 59 = .ok (.invokevirtual 270, 3) := by decide +kernel
theorem dX6_sheet_62 : decode cX6_sheet 62 = .ok (.iconst 1, 1) := by decide +kernel
theorem dX6_sheet_63 : decode cX6_sheet 63 = .ok (.ireturn, 1) := by decide +kernel
theorem dX6_cell_0 : decode cX6_cell 0 = .ok (.aload_n 0, 1) := by decide +kernel
theorem dX6_cell_1 : decode cX6_cell 1 = .ok (.iload_n 1, 1) := by decide +kernel
theorem dX6_cell_2 : decode cX6_cell 2 = .ok (.invokevirtual 258, 3) := by decide +kernel
theorem dX6_cell_5 : decode cX6_cell 5 = .ok (.astore 4, 2) := by decide +kernel
theorem dX6_cell_7 : decode cX6_cell 7 = .ok (.aload 4, 2) := by decide +kernel
theorem dX6_cell_9 : decode cX6_cell 9 = .ok (.ifnonnull 6, 3) := by decide +kernel
theorem dX6_cell_12 : decode cX6_cell 12 = .ok (.bipush (-2), 2) := by decide +kernel
theorem dX6_cell_14 : decode cX6_cell 14 = .ok (.ireturn, 1) := by decide +kernel
theorem dX6_cell_15 : decode cX6_cell 15 = .ok (.aload 4, 2) := by decide +kernel
theorem dX6_cell_17 : decode cX6_cell 17 = .ok (.invokevirtual 297, 3) := by decide +kernel
theorem dX6_cell_20 : decode cX6_cell 20 = .ok (.ifCond .eq 6, 3) := by decide +kernel
theorem dX6_cell_23 : decode cX6_cell 23 = .ok (.bipush (-11), 2) := by decide +kernel
theorem dX6_cell_25 : decode cX6_cell 25 = .ok (.ireturn, 1) := by decide +kernel
theorem dX6_cell_26 : decode cX6_cell 26 = .ok (.aload 4, 2) := by decide +kernel
theorem dX6_cell_28 : decode cX6_cell 28 = .ok (.iload_n 2, 1) := by decide +kernel
theorem dX6_cell_29 : decode cX6_cell 29 = .ok (.iconst 1, 1) := by decide +kernel
theorem dX6_cell_30 : decode cX6_cell 30 = .ok (.invokevirtual 300, 3) := by decide +kernel
theorem dX6_cell_33 : decode cX6_cell 33 = .ok (.ifCond .ne 6, 3) := by decide +kernel
theorem dX6_cell_36 : decode cX6_cell 36 = .ok (.bipush (-12), 2) := by decide +kernel
theorem dX6_cell_38 : decode cX6_cell 38 = .ok (.ireturn, 1) := by decide +kernel
theorem dX6_cell_39 : decode cX6_cell 39 = .ok (.aload 4, 2) := by decide +kernel
theorem dX6_cell_41 : decode cX6_cell 41 = .ok (.iload_n 2, 1) := by decide +kernel
theorem dX6_cell_42 : decode cX6_cell 42 = .ok (.iload_n 3, 1) := by decide +kernel
theorem dX6_cell_43 : decode cX6_cell 43 = .ok (.invokevirtual 272, 3) := by decide +kernel
theorem dX6_cell_46 : decode cX6_cell 46 = .ok (.iconst 1, 1) := by decide +kernel
theorem dX6_cell_47 : decode cX6_cell 47 = .ok (.ireturn, 1) := by decide +kernel
theorem dX6_copy_0 : decode cX6_copy 0 = .ok (.aload_n 0, 1) := by decide +kernel
theorem dX6_copy_1 : decode cX6_copy 1 = .ok (.iload_n 1, 1) := by decide +kernel
theorem dX6_copy_2 : decode cX6_copy 2 = .ok (.invokevirtual 258, 3) := by decide +kernel
theorem dX6_copy_5 : decode cX6_copy 5 = .ok (.astore 6, 2) := by decide +kernel
theorem dX6_copy_7 : decode cX6_copy 7 = .ok (.aload_n 0, 1) := by decide +kernel
theorem dX6_copy_8 : decode cX6_copy 8 = .ok (.iload_n 3, 1) := by decide +kernel
theorem dX6_copy_9 : decode cX6_copy 9 = .ok (.invokevirtual 258, 3) := by decide +kernel
theorem dX6_copy_12 : decode cX6_copy 12 = .ok (.astore 7, 2) := by decide +kernel
theorem dX6_copy_14 : decode cX6_copy 14 = .ok (.aload 6, 2) := by decide +kernel
theorem dX6_copy_16 : decode cX6_copy 16 = .ok (.ifnull 8, 3) := by decide +kernel
theorem dX6_copy_19 : decode cX6_copy 19 = .ok (.aload 7, 2) := by decide +kernel
theorem dX6_copy_21 : decode cX6_copy 21 = .ok (.ifnonnull 6, 3) := by decide +kernel
theorem dX6_copy_24 : decode cX6_copy 24 = .ok (.bipush (-2), 2) := by decide +kernel
theorem dX6_copy_26 : decode cX6_copy 26 = .ok (.ireturn, 1) := by decide +kernel
theorem dX6_copy_27 : decode cX6_copy 27 = .ok (.aload 6, 2) := by decide +kernel
theorem dX6_copy_29 : decode cX6_copy 29 = .ok (.invokevirtual 297, 3) := by decide +kernel
theorem dX6_copy_32 : decode cX6_copy 32 = .ok (.ifCond .ne 11, 3) := by decide +kernel
theorem dX6_copy_35 : decode cX6_copy 35 = .ok (.aload 7, 2) := by decide +kernel
theorem dX6_copy_37 : decode cX6_copy 37 = .ok (.invokevirtual 297, 3) := by decide +kernel
theorem dX6_copy_40 : decode cX6_copy 40 = .ok (.ifCond .eq 6, 3) := by decide +kernel
theorem dX6_copy_43 : decode cX6_copy 43 = .ok (.bipush (-11), 2) := by decide +kernel
theorem dX6_copy_45 : decode cX6_copy 45 = .ok (.ireturn, 1) := by decide +kernel
theorem dX6_copy_46 : decode cX6_copy 46 = .ok (.aload 6, 2) := by decide +kernel
theorem dX6_copy_48 : decode cX6_copy 48 = .ok (.getfield 303, 3) := by decide +kernel
theorem dX6_copy_51 : decode cX6_copy 51 = .ok (.aload 7, 2) := by decide +kernel
theorem dX6_copy_53 : decode cX6_copy 53 = .ok (.getfield 303, 3) := by decide +kernel
theorem dX6_copy_56 : decode cX6_copy 56 = .ok (.if_icmp .eq 6, 3) := by decide +kernel
theorem dX6_copy_59 : decode cX6_copy 59 = .ok (.bipush (-13), 2) := by decide +kernel
theorem dX6_copy_61 : decode cX6_copy 61 = .ok (.ireturn, 1) := by decide +kernel
theorem dX6_copy_62 : decode cX6_copy 62 = .ok (.aload 6, 2) := by decide +kernel
theorem dX6_copy_64 : decode cX6_copy 64 = .ok (.iload_n 2, 1) := by decide +kernel
theorem dX6_copy_65 : decode cX6_copy 65 = .ok (.iload 5, 2) := by decide +kernel
theorem dX6_copy_67 : decode cX6_copy 67 = .ok (.invokevirtual 300, 3) := by decide +kernel
theorem dX6_copy_70 : decode cX6_copy 70 = .ok (.ifCond .eq 15, 3) := by decide +kernel
theorem dX6_copy_73 : decode cX6_copy 73 = .ok (.aload 7, 2) := by decide +kernel
theorem dX6_copy_75 : decode cX6_copy 75 = .ok (.iload 4, 2) := by decide +kernel
theorem dX6_copy_77 : decode cX6_copy 77 = .ok (.iload 5, 2) := by decide +kernel
theorem dX6_copy_79 : decode cX6_copy 79 = .ok (.invokevirtual 300, 3) := by decide +kernel
theorem dX6_copy_82 : decode cX6_copy 82 = .ok (.ifCond .ne 6, 3) := by decide +kernel
theorem dX6_copy_85 : decode cX6_copy 85 = .ok (.bipush (-12), 2) := by decide +kernel
theorem dX6_copy_87 : decode cX6_copy 87 = .ok (.ireturn, 1) := by decide +kernel
theorem dX6_copy_88 : decode cX6_copy 88 = .ok (.aload 7, 2) := by decide +kernel
theorem dX6_copy_90 : decode cX6_copy 90 = .ok (.iload 4, 2) := by decide +kernel
theorem dX6_copy_92 : decode cX6_copy 92 = .ok (.aload 6, 2) := by decide +kernel
theorem dX6_copy_94 : decode cX6_copy 94 = .ok (.iload_n 2, 1) := by decide +kernel
theorem dX6_copy_95 : decode cX6_copy 95 = .ok (.iload 5, 2) := by decide +kernel
theorem dX6_copy_97 : decode cX6_copy 97 = .ok (.invokevirtual 306, 3) := by decide +kernel
theorem dX6_copy_100 : decode cX6_copy 100 = .ok (.iload 5, 2) := by decide +kernel
theorem dX6_copy_102 : decode cX6_copy 102 = .ok (.ireturn, 1) := by decide +kernel
theorem dX6_actsBy_0 : decode cX6_actsBy 0 = .ok (.aload_n 0, 1) := by decide +kernel
theorem dX6_actsBy_1 : decode cX6_actsBy 1 = .ok (.iload_n 1, 1) := by decide +kernel
theorem dX6_actsBy_2 : decode cX6_actsBy 2 = .ok (.invokevirtual 258, 3) := by decide +kernel
theorem dX6_actsBy_5 : decode cX6_actsBy 5 = .ok (.astore 5, 2) := by decide +kernel
theorem dX6_actsBy_7 : decode cX6_actsBy 7 = .ok (.aload 5, 2) := by decide +kernel
theorem dX6_actsBy_9 : decode cX6_actsBy 9 = .ok (.ifnull 24, 3) := by decide +kernel
theorem dX6_actsBy_12 : decode cX6_actsBy 12 = .ok (.iload_n 2, 1) := by decide +kernel
theorem dX6_actsBy_13 : decode cX6_actsBy 13 = .ok (.ifCond .lt 20, 3) := by decide +kernel
theorem dX6_actsBy_16 : decode cX6_actsBy 16 = .ok (.iload_n 2, 1) := by decide +kernel
theorem dX6_actsBy_17 : decode cX6_actsBy 17 = .ok (.iconst 2, 1) := by decide +kernel
theorem dX6_actsBy_18 : decode cX6_actsBy 18 = .ok (.if_icmp .gt 15, 3) := by decide +kernel
theorem dX6_actsBy_21 : decode cX6_actsBy 21 = .ok (.iload 4, 2) := by decide +kernel
theorem dX6_actsBy_23 : decode cX6_actsBy 23 = .ok (.ifCond .lt 10, 3) := by decide +kernel
theorem dX6_actsBy_26 : decode cX6_actsBy 26 = .ok (.iload 4, 2) := by decide +kernel
theorem dX6_actsBy_28 : decode cX6_actsBy 28 = .ok (.bipush 12, 2) := by decide +kernel
theorem dX6_actsBy_30 : decode cX6_actsBy 30 = .ok (.if_icmp .le 6, 3) := by decide +kernel
theorem dX6_actsBy_33 : decode cX6_actsBy 33 = .ok (.bipush (-2), 2) := by decide +kernel
theorem dX6_actsBy_35 : decode cX6_actsBy 35 = .ok (.ireturn, 1) := by decide +kernel
theorem dX6_actsBy_36 : decode cX6_actsBy 36 = .ok (.aload 5, 2) := by decide +kernel
theorem dX6_actsBy_38 : decode cX6_actsBy 38 = .ok (.invokevirtual 297, 3) := by decide +kernel
theorem dX6_actsBy_41 : decode cX6_actsBy 41 = .ok (.ifCond .eq 6, 3) := by decide +kernel
theorem dX6_actsBy_44 : decode cX6_actsBy 44 = .ok (.bipush (-11), 2) := by decide +kernel
theorem dX6_actsBy_46 : decode cX6_actsBy 46 = .ok (.ireturn, 1) := by decide +kernel
theorem dX6_actsBy_47 : decode cX6_actsBy 47 = .ok (.aload 5, 2) := by decide +kernel
theorem dX6_actsBy_49 : decode cX6_actsBy 49 = .ok (.getfield 303, 3) := by decide +kernel
theorem dX6_actsBy_52 : decode cX6_actsBy 52 = .ok (.iload_n 2, 1) := by decide +kernel
theorem dX6_actsBy_53 : decode cX6_actsBy 53 = .ok (.if_icmp .eq 6, 3) := by decide +kernel
theorem dX6_actsBy_56 : decode cX6_actsBy 56 = .ok (.bipush (-13), 2) := by decide +kernel
theorem dX6_actsBy_58 : decode cX6_actsBy 58 = .ok (.ireturn, 1) := by decide +kernel
theorem dX6_actsBy_59 : decode cX6_actsBy 59 = .ok (.iconst 0, 1) := by decide +kernel
theorem dX6_actsBy_60 : decode cX6_actsBy 60 = .ok (.istore 6, 2) := by decide +kernel
theorem dX6_actsBy_62 : decode cX6_actsBy 62 = .ok (.iconst 0, 1) := by decide +kernel
theorem dX6_actsBy_63 : decode cX6_actsBy 63 = .ok (.istore 7, 2) := by decide +kernel
theorem dX6_actsBy_65 : decode cX6_actsBy 65 = .ok (.iload 7, 2) := by decide +kernel
theorem dX6_actsBy_67 : decode cX6_actsBy 67 = .ok (.iload 4, 2) := by decide +kernel
theorem dX6_actsBy_69 : decode cX6_actsBy 69 = .ok (.if_icmp .ge 66, 3) := by decide +kernel
theorem dX6_actsBy_72 : decode cX6_actsBy 72 = .ok (.iload_n 3, 1) := by decide +kernel
theorem dX6_actsBy_73 : decode cX6_actsBy 73 = .ok (.iconst 3, 1) := by decide +kernel
theorem dX6_actsBy_74 : decode cX6_actsBy 74 = .ok (.iload 7, 2) := by decide +kernel
theorem dX6_actsBy_76 : decode cX6_actsBy 76 = .ok (.imul, 1) := by decide +kernel
theorem dX6_actsBy_77 : decode cX6_actsBy 77 = .ok (.iadd, 1) := by decide +kernel
theorem dX6_actsBy_78 : decode cX6_actsBy 78 = .ok (.istore 8, 2) := by decide +kernel
theorem dX6_actsBy_80 : decode cX6_actsBy 80 = .ok (.aload 5, 2) := by decide +kernel
theorem dX6_actsBy_82 : decode cX6_actsBy 82 = .ok (.iload 8, 2) := by decide +kernel
theorem dX6_actsBy_84 : decode cX6_actsBy 84 = .ok (.iconst 3, 1) := by decide +kernel
theorem dX6_actsBy_85 : decode cX6_actsBy 85 = .ok (.invokevirtual 300, 3) := by decide +kernel
theorem dX6_actsBy_88 : decode cX6_actsBy 88 = .ok (.ifCond .ne 6, 3) := by decide +kernel
theorem dX6_actsBy_91 : decode cX6_actsBy 91 = .ok (.bipush (-12), 2) := by decide +kernel
theorem dX6_actsBy_93 : decode cX6_actsBy 93 = .ok (.ireturn, 1) := by decide +kernel
theorem dX6_actsBy_94 : decode cX6_actsBy 94 = .ok (.aload_n 0, 1) := by decide +kernel
theorem dX6_actsBy_95 : decode cX6_actsBy 95 = .ok (.aload 5, 2) := by decide +kernel
theorem dX6_actsBy_97 : decode cX6_actsBy 97 = .ok (.iload 8, 2) := by decide +kernel
theorem dX6_actsBy_99 : decode cX6_actsBy 99 = .ok (.invokevirtual 266, 3) := by decide +kernel
theorem dX6_actsBy_102 : decode cX6_actsBy 102 = .ok (.aload 5, 2) := by decide +kernel
theorem dX6_actsBy_104 : decode cX6_actsBy 104 = .ok (.iload 8, 2) := by decide +kernel
theorem dX6_actsBy_106 : decode cX6_actsBy 106 = .ok (.iconst 1, 1) := by decide +kernel
theorem dX6_actsBy_107 : decode cX6_actsBy 107 = .ok (.iadd, 1) := by decide +kernel
theorem dX6_actsBy_108 : decode cX6_actsBy 108 = .ok (.invokevirtual 266, 3) := by decide +kernel
theorem dX6_actsBy_111 : decode cX6_actsBy 111 = .ok (.aload 5, 2) := by decide +kernel
theorem dX6_actsBy_113 : decode cX6_actsBy 113 = .ok (.iload 8, 2) := by decide +kernel
theorem dX6_actsBy_115 : decode cX6_actsBy 115 = .ok (.iconst 2, 1) := by decide +kernel
theorem dX6_actsBy_116 : decode cX6_actsBy 116 = .ok (.iadd, 1) := by decide +kernel
theorem dX6_actsBy_117 : decode cX6_actsBy 117 = .ok (.invokevirtual 266, 3) := by decide +kernel
theorem dX6_actsBy_120 : decode cX6_actsBy 120 = .ok (.invokevirtual 310, 3) := by decide +kernel
theorem dX6_actsBy_123 : decode cX6_actsBy 123 = .ok (.ifCond .lt 6, 3) := by decide +kernel
theorem dX6_actsBy_126 : decode cX6_actsBy 126 = .ok (.iinc 6 1, 3) := by decide +kernel
theorem dX6_actsBy_129 : decode cX6_actsBy 129 = .ok (.iinc 7 1, 3) := by decide +kernel
theorem dX6_actsBy_132 : decode cX6_actsBy 132 = .ok (.goto (-67), 3) := by decide +kernel
theorem dX6_actsBy_135 : decode cX6_actsBy 135 = .ok (.iload 6, 2) := by decide +kernel
theorem dX6_actsBy_137 : decode cX6_actsBy 137 = .ok (.ireturn, 1) := by decide +kernel
theorem dX6_taken_0 : decode cX6_taken 0 = .ok (.iload_n 2, 1) := by decide +kernel
theorem dX6_taken_1 : decode cX6_taken 1 = .ok (.ifCond .lt 9, 3) := by decide +kernel
theorem dX6_taken_4 : decode cX6_taken 4 = .ok (.iload_n 2, 1) := by decide +kernel
theorem dX6_taken_5 : decode cX6_taken 5 = .ok (.bipush 6, 2) := by decide +kernel
theorem dX6_taken_7 : decode cX6_taken 7 = .ok (.if_icmp .le 6, 3) := by decide +kernel
theorem dX6_taken_10 : decode cX6_taken 10 = .ok (.bipush (-2), 2) := by decide +kernel
theorem dX6_taken_12 : decode cX6_taken 12 = .ok (.ireturn, 1) := by decide +kernel
theorem dX6_taken_13 : decode cX6_taken 13 = .ok (.iload_n 1, 1) := by decide +kernel
theorem dX6_taken_14 : decode cX6_taken 14 = .ok (.ifCond .lt 9, 3) := by decide +kernel
theorem dX6_taken_17 : decode cX6_taken 17 = .ok (.iload_n 1, 1) := by decide +kernel
theorem dX6_taken_18 : decode cX6_taken 18 = .ok (.bipush 16, 2) := by decide +kernel
theorem dX6_taken_20 : decode cX6_taken 20 = .ok (.if_icmp .lt 6, 3) := by decide +kernel
theorem dX6_taken_23 : decode cX6_taken 23 = .ok (.bipush (-12), 2) := by decide +kernel
theorem dX6_taken_25 : decode cX6_taken 25 = .ok (.ireturn, 1) := by decide +kernel
theorem dX6_taken_26 : decode cX6_taken 26 = .ok (.iload_n 2, 1) := by decide +kernel
theorem dX6_taken_27 : decode cX6_taken 27 = .ok (.bipush 6, 2) := by decide +kernel
theorem dX6_taken_29 : decode cX6_taken 29 = .ok (.if_icmp .ne 7, 3) := by decide +kernel
theorem dX6_taken_32 : decode cX6_taken 32 = .ok (.iconst 1, 1) := by decide +kernel
theorem dX6_taken_33 : decode cX6_taken 33 = .ok (.goto 4, 3) := by decide +kernel
theorem dX6_taken_36 : decode cX6_taken 36 = .ok (.iconst 0, 1) := by decide +kernel
theorem dX6_taken_37 : decode cX6_taken 37 = .ok (.istore_n 3, 1) := by decide +kernel
theorem dX6_taken_38 : decode cX6_taken 38 = .ok (.iload_n 1, 1) := by decide +kernel
theorem dX6_taken_39 : decode cX6_taken 39 = .ok (.iconst 4, 1) := by decide +kernel
theorem dX6_taken_40 : decode cX6_taken 40 = .ok (.if_icmp .ge 34, 3) := by decide +kernel
theorem dX6_taken_43 : decode cX6_taken 43 = .ok (.aload_n 0, 1) := by decide +kernel
theorem dX6_taken_44 : decode cX6_taken 44 = .ok (.iload_n 1, 1) := by decide +kernel
theorem dX6_taken_45 : decode cX6_taken 45 = .ok (.invokevirtual 101, 3) := by decide +kernel
theorem dX6_taken_48 : decode cX6_taken 48 = .ok (.astore 4, 2) := by decide +kernel
theorem dX6_taken_50 : decode cX6_taken 50 = .ok (.aload 4, 2) := by decide +kernel
theorem dX6_taken_52 : decode cX6_taken 52 = .ok (.ifnonnull 6, 3) := by decide +kernel
theorem dX6_taken_55 : decode cX6_taken 55 = .ok (.bipush (-11), 2) := by decide +kernel
theorem dX6_taken_57 : decode cX6_taken 57 = .ok (.ireturn, 1) := by decide +kernel
theorem dX6_taken_58 : decode cX6_taken 58 = .ok (.iload_n 3, 1) := by decide +kernel
theorem dX6_taken_59 : decode cX6_taken 59 = .ok (.ifCond .eq 12, 3) := by decide +kernel
theorem dX6_taken_62 : decode cX6_taken 62 = .ok (.aload 4, 2) := by decide +kernel
theorem dX6_taken_64 : decode cX6_taken 64 = .ok (.iconst 0, 1) := by decide +kernel
theorem dX6_taken_65 : decode cX6_taken 65 = .ok (.invokevirtual 109, 3) := by decide +kernel
theorem dX6_taken_68 : decode cX6_taken 68 = .ok (.goto 5, 3) := by decide +kernel
theorem dX6_taken_71 : decode cX6_taken 71 = .ok (.bipush (-13), 2) := by decide +kernel
theorem dX6_taken_73 : decode cX6_taken 73 = .ok (.ireturn, 1) := by decide +kernel
theorem dX6_taken_74 : decode cX6_taken 74 = .ok (.aload_n 0, 1) := by decide +kernel
theorem dX6_taken_75 : decode cX6_taken 75 = .ok (.iload_n 1, 1) := by decide +kernel
theorem dX6_taken_76 : decode cX6_taken 76 = .ok (.iconst 4, 1) := by decide +kernel
theorem dX6_taken_77 : decode cX6_taken 77 = .ok (.isub, 1) := by decide +kernel
theorem dX6_taken_78 : decode cX6_taken 78 = .ok (.invokevirtual 141, 3) := by decide +kernel
theorem dX6_taken_81 : decode cX6_taken 81 = .ok (.astore 4, 2) := by decide +kernel
theorem dX6_taken_83 : decode cX6_taken 83 = .ok (.aload 4, 2) := by decide +kernel
theorem dX6_taken_85 : decode cX6_taken 85 = .ok (.ifnonnull 6, 3) := by decide +kernel
theorem dX6_taken_88 : decode cX6_taken 88 = .ok (.bipush (-11), 2) := by decide +kernel
theorem dX6_taken_90 : decode cX6_taken 90 = .ok (.ireturn, 1) := by decide +kernel
theorem dX6_taken_91 : decode cX6_taken 91 = .ok (.iload_n 3, 1) := by decide +kernel
theorem dX6_taken_92 : decode cX6_taken 92 = .ok (.ifCond .ne 18, 3) := by decide +kernel
theorem dX6_taken_95 : decode cX6_taken 95 = .ok (.aload 4, 2) := by decide +kernel
theorem dX6_taken_97 : decode cX6_taken 97 = .ok (.iload_n 2, 1) := by decide +kernel
theorem dX6_taken_98 : decode cX6_taken 98 = .ok (.invokevirtual 313, 3) := by decide +kernel
theorem dX6_taken_101 : decode cX6_taken 101 = .ok (.ifCond .eq 9, 3) := by decide +kernel
theorem dX6_taken_104 : decode cX6_taken 104 = .ok (.iload_n 1, 1) := by decide +kernel
theorem dX6_taken_105 : decode cX6_taken 105 = .ok (.iconst 4, 1) := by decide +kernel
theorem dX6_taken_106 : decode cX6_taken 106 = .ok (.isub, 1) := by decide +kernel
theorem dX6_taken_107 : decode cX6_taken 107 = .ok (.goto 5, 3) := by decide +kernel
theorem dX6_taken_110 : decode cX6_taken 110 = .ok (.bipush (-13), 2) := by decide +kernel
theorem dX6_taken_112 : decode cX6_taken 112 = .ok (.ireturn, 1) := by decide +kernel
theorem dX6_cheeseAt_0 : decode cX6_cheeseAt 0 = .ok (.iload_n 1, 1) := by decide +kernel
theorem dX6_cheeseAt_1 : decode cX6_cheeseAt 1 = .ok (.ifCond .lt 29, 3) := by decide +kernel
theorem dX6_cheeseAt_4 : decode cX6_cheeseAt 4 = .ok (.iload_n 1, 1) := by decide +kernel
theorem dX6_cheeseAt_5 : decode cX6_cheeseAt 5 = .ok (.aload_n 0, 1) := by decide +kernel
theorem dX6_cheeseAt_6 : decode cX6_cheeseAt 6 = .ok (.getfield 98, 3) := by decide +kernel
theorem dX6_cheeseAt_9 : decode cX6_cheeseAt 9 = .ok (.if_icmp .ge 21, 3) := by decide +kernel
theorem dX6_cheeseAt_12 : decode cX6_cheeseAt 12 = .ok (.iload_n 1, 1) := by decide +kernel
theorem dX6_cheeseAt_13 : decode cX6_cheeseAt 13 = .ok (.aload_n 0, 1) := by decide +kernel
theorem dX6_cheeseAt_14 : decode cX6_cheeseAt 14 = .ok (.getfield 11, 3) := by decide +kernel
theorem dX6_cheeseAt_17 : decode cX6_cheeseAt 17 = .ok (.arraylength, 1) := by decide +kernel
theorem dX6_cheeseAt_18 : decode cX6_cheeseAt 18 = .ok (.if_icmp .ge 12, 3) := by decide +kernel
theorem dX6_cheeseAt_21 : decode cX6_cheeseAt 21 = .ok (.aload_n 0, 1) := by decide +kernel
theorem dX6_cheeseAt_22 : decode cX6_cheeseAt 22 = .ok (.getfield 11, 3) := by decide +kernel
theorem dX6_cheeseAt_25 : decode cX6_cheeseAt 25 = .ok (.iload_n 1, 1) := by decide +kernel
theorem dX6_cheeseAt_26 : decode cX6_cheeseAt 26 = .ok (.aaload, 1) := by decide +kernel
theorem dX6_cheeseAt_27 : decode cX6_cheeseAt 27 = .ok (.goto 4, 3) := by decide +kernel
theorem dX6_cheeseAt_30 : decode cX6_cheeseAt 30 = .ok (.aconst_null, 1) := by decide +kernel
theorem dX6_cheeseAt_31 : decode cX6_cheeseAt 31 = .ok (.areturn, 1) := by decide +kernel
theorem dX6_actAt_0 : decode cX6_actAt 0 = .ok (.iload_n 1, 1) := by decide +kernel
theorem dX6_actAt_1 : decode cX6_actAt 1 = .ok (.ifCond .lt 29, 3) := by decide +kernel
theorem dX6_actAt_4 : decode cX6_actAt 4 = .ok (.iload_n 1, 1) := by decide +kernel
theorem dX6_actAt_5 : decode cX6_actAt 5 = .ok (.aload_n 0, 1) := by decide +kernel
theorem dX6_actAt_6 : decode cX6_actAt 6 = .ok (.getfield 120, 3) := by decide +kernel
theorem dX6_actAt_9 : decode cX6_actAt 9 = .ok (.if_icmp .ge 21, 3) := by decide +kernel
theorem dX6_actAt_12 : decode cX6_actAt 12 = .ok (.iload_n 1, 1) := by decide +kernel
theorem dX6_actAt_13 : decode cX6_actAt 13 = .ok (.aload_n 0, 1) := by decide +kernel
theorem dX6_actAt_14 : decode cX6_actAt 14 = .ok (.getfield 17, 3) := by decide +kernel
theorem dX6_actAt_17 : decode cX6_actAt 17 = .ok (.arraylength, 1) := by decide +kernel
theorem dX6_actAt_18 : decode cX6_actAt 18 = .ok (.if_icmp .ge 12, 3) := by decide +kernel
theorem dX6_actAt_21 : decode cX6_actAt 21 = .ok (.aload_n 0, 1) := by decide +kernel
theorem dX6_actAt_22 : decode cX6_actAt 22 = .ok (.getfield 17, 3) := by decide +kernel
theorem dX6_actAt_25 : decode cX6_actAt 25 = .ok (.iload_n 1, 1) := by decide +kernel
theorem dX6_actAt_26 : decode cX6_actAt 26 = .ok (.aaload, 1) := by decide +kernel
theorem dX6_actAt_27 : decode cX6_actAt 27 = .ok (.goto 4, 3) := by decide +kernel
theorem dX6_actAt_30 : decode cX6_actAt 30 = .ok (.aconst_null, 1) := by decide +kernel
theorem dX6_actAt_31 : decode cX6_actAt 31 = .ok (.areturn, 1) := by decide +kernel
theorem dX6_lawAt_0 : decode cX6_lawAt 0 = .ok (.iload_n 1, 1) := by decide +kernel
theorem dX6_lawAt_1 : decode cX6_lawAt 1 = .ok (.ifCond .lt 29, 3) := by decide +kernel
theorem dX6_lawAt_4 : decode cX6_lawAt 4 = .ok (.iload_n 1, 1) := by decide +kernel
theorem dX6_lawAt_5 : decode cX6_lawAt 5 = .ok (.aload_n 0, 1) := by decide +kernel
theorem dX6_lawAt_6 : decode cX6_lawAt 6 = .ok (.getfield 91, 3) := by decide +kernel
theorem dX6_lawAt_9 : decode cX6_lawAt 9 = .ok (.if_icmp .ge 21, 3) := by decide +kernel
theorem dX6_lawAt_12 : decode cX6_lawAt 12 = .ok (.iload_n 1, 1) := by decide +kernel
theorem dX6_lawAt_13 : decode cX6_lawAt 13 = .ok (.aload_n 0, 1) := by decide +kernel
theorem dX6_lawAt_14 : decode cX6_lawAt 14 = .ok (.getfield 23, 3) := by decide +kernel
theorem dX6_lawAt_17 : decode cX6_lawAt 17 = .ok (.arraylength, 1) := by decide +kernel
theorem dX6_lawAt_18 : decode cX6_lawAt 18 = .ok (.if_icmp .ge 12, 3) := by decide +kernel
theorem dX6_lawAt_21 : decode cX6_lawAt 21 = .ok (.aload_n 0, 1) := by decide +kernel
theorem dX6_lawAt_22 : decode cX6_lawAt 22 = .ok (.getfield 23, 3) := by decide +kernel
theorem dX6_lawAt_25 : decode cX6_lawAt 25 = .ok (.iload_n 1, 1) := by decide +kernel
theorem dX6_lawAt_26 : decode cX6_lawAt 26 = .ok (.aaload, 1) := by decide +kernel
theorem dX6_lawAt_27 : decode cX6_lawAt 27 = .ok (.goto 4, 3) := by decide +kernel
theorem dX6_lawAt_30 : decode cX6_lawAt 30 = .ok (.aconst_null, 1) := by decide +kernel
theorem dX6_lawAt_31 : decode cX6_lawAt 31 = .ok (.areturn, 1) := by decide +kernel
theorem dX6_sheetAt_0 : decode cX6_sheetAt 0 = .ok (.iload_n 1, 1) := by decide +kernel
theorem dX6_sheetAt_1 : decode cX6_sheetAt 1 = .ok (.ifCond .lt 21, 3) := by decide +kernel
theorem dX6_sheetAt_4 : decode cX6_sheetAt 4 = .ok (.iload_n 1, 1) := by decide +kernel
theorem dX6_sheetAt_5 : decode cX6_sheetAt 5 = .ok (.aload_n 0, 1) := by decide +kernel
theorem dX6_sheetAt_6 : decode cX6_sheetAt 6 = .ok (.getfield 40, 3) := by decide +kernel
theorem dX6_sheetAt_9 : decode cX6_sheetAt 9 = .ok (.arraylength, 1) := by decide +kernel
theorem dX6_sheetAt_10 : decode cX6_sheetAt 10 = .ok (.if_icmp .ge 12, 3) := by decide +kernel
theorem dX6_sheetAt_13 : decode cX6_sheetAt 13 = .ok (.aload_n 0, 1) := by decide +kernel
theorem dX6_sheetAt_14 : decode cX6_sheetAt 14 = .ok (.getfield 40, 3) := by decide +kernel
theorem dX6_sheetAt_17 : decode cX6_sheetAt 17 = .ok (.iload_n 1, 1) := by decide +kernel
theorem dX6_sheetAt_18 : decode cX6_sheetAt 18 = .ok (.aaload, 1) := by decide +kernel
theorem dX6_sheetAt_19 : decode cX6_sheetAt 19 = .ok (.goto 4, 3) := by decide +kernel
theorem dX6_sheetAt_22 : decode cX6_sheetAt 22 = .ok (.aconst_null, 1) := by decide +kernel
theorem dX6_sheetAt_23 : decode cX6_sheetAt 23 = .ok (.areturn, 1) := by decide +kernel
theorem dX6_hasActs_0 : decode cX6_hasActs 0 = .ok (.iload_n 1, 1) := by decide +kernel
theorem dX6_hasActs_1 : decode cX6_hasActs 1 = .ok (.ifCond .lt 15, 3) := by decide +kernel
theorem dX6_hasActs_4 : decode cX6_hasActs 4 = .ok (.iload_n 1, 1) := by decide +kernel
theorem dX6_hasActs_5 : decode cX6_hasActs 5 = .ok (.aload_n 0, 1) := by decide +kernel
theorem dX6_hasActs_6 : decode cX6_hasActs 6 = .ok (.getfield 120, 3) := by decide +kernel
theorem dX6_hasActs_9 : decode cX6_hasActs 9 = .ok (.if_icmp .gt 7, 3) := by decide +kernel
theorem dX6_hasActs_12 : decode cX6_hasActs 12 = .ok (.iconst 1, 1) := by decide +kernel
theorem dX6_hasActs_13 : decode cX6_hasActs 13 = .ok (.goto 4, 3) := by decide +kernel
theorem dX6_hasActs_16 : decode cX6_hasActs 16 = .ok (.iconst 0, 1) := by decide +kernel
theorem dX6_hasActs_17 : decode cX6_hasActs 17 = .ok (.ireturn, 1) := by decide +kernel
theorem dX6_isByte_0 : decode cX6_isByte 0 = .ok (.iload_n 0, 1) := by decide +kernel
theorem dX6_isByte_1 : decode cX6_isByte 1 = .ok (.ifCond .lt 14, 3) := by decide +kernel
theorem dX6_isByte_4 : decode cX6_isByte 4 = .ok (.iload_n 0, 1) := by decide +kernel
theorem dX6_isByte_5 : decode cX6_isByte 5 = .ok (.sipush 255, 3) := by decide +kernel
theorem dX6_isByte_8 : decode cX6_isByte 8 = .ok (.if_icmp .gt 7, 3) := by decide +kernel
theorem dX6_isByte_11 : decode cX6_isByte 11 = .ok (.iconst 1, 1) := by decide +kernel
theorem dX6_isByte_12 : decode cX6_isByte 12 = .ok (.goto 4, 3) := by decide +kernel
theorem dX6_isByte_15 : decode cX6_isByte 15 = .ok (.iconst 0, 1) := by decide +kernel
theorem dX6_isByte_16 : decode cX6_isByte 16 = .ok (.ireturn, 1) := by decide +kernel
theorem dX6_isBit_0 : decode cX6_isBit 0 = .ok (.iload_n 0, 1) := by decide +kernel
theorem dX6_isBit_1 : decode cX6_isBit 1 = .ok (.ifCond .eq 8, 3) := by decide +kernel
theorem dX6_isBit_4 : decode cX6_isBit 4 = .ok (.iload_n 0, 1) := by decide +kernel
theorem dX6_isBit_5 : decode cX6_isBit 5 = .ok (.iconst 1, 1) := by decide +kernel
theorem dX6_isBit_6 : decode cX6_isBit 6 = .ok (.if_icmp .ne 7, 3) := by decide +kernel
theorem dX6_isBit_9 : decode cX6_isBit 9 = .ok (.iconst 1, 1) := by decide +kernel
theorem dX6_isBit_10 : decode cX6_isBit 10 = .ok (.goto 4, 3) := by decide +kernel
theorem dX6_isBit_13 : decode cX6_isBit 13 = .ok (.iconst 0, 1) := by decide +kernel
theorem dX6_isBit_14 : decode cX6_isBit 14 = .ok (.ireturn, 1) := by decide +kernel
theorem dX6_isSeed_0 : decode cX6_isSeed 0 = .ok (.iload_n 0, 1) := by decide +kernel
theorem dX6_isSeed_1 : decode cX6_isSeed 1 = .ok (.ifCond .lt 14, 3) := by decide +kernel
theorem dX6_isSeed_4 : decode cX6_isSeed 4 = .ok (.iload_n 0, 1) := by decide +kernel
theorem dX6_isSeed_5 : decode cX6_isSeed 5 = .ok (.ldc_w 283, 3) := by decide +kernel
theorem dX6_isSeed_8 : decode cX6_isSeed 8 = .ok (.if_icmp .gt 7, 3) := by decide +kernel
theorem dX6_isSeed_11 : decode cX6_isSeed 11 = .ok (.iconst 1, 1) := by decide +kernel
theorem dX6_isSeed_12 : decode cX6_isSeed 12 = .ok (.goto 4, 3) := by decide +kernel
theorem dX6_isSeed_15 : decode cX6_isSeed 15 = .ok (.iconst 0, 1) := by decide +kernel
theorem dX6_isSeed_16 : decode cX6_isSeed 16 = .ok (.ireturn, 1) := by decide +kernel
theorem dX6_isEvery_0 : decode cX6_isEvery 0 = .ok (.iload_n 0, 1) := by decide +kernel
theorem dX6_isEvery_1 : decode cX6_isEvery 1 = .ok (.iconst 1, 1) := by decide +kernel
theorem dX6_isEvery_2 : decode cX6_isEvery 2 = .ok (.if_icmp .lt 13, 3) := by decide +kernel
theorem dX6_isEvery_5 : decode cX6_isEvery 5 = .ok (.iload_n 0, 1) := by decide +kernel
theorem dX6_isEvery_6 : decode cX6_isEvery 6 = .ok (.bipush 30, 2) := by decide +kernel
theorem dX6_isEvery_8 : decode cX6_isEvery 8 = .ok (.if_icmp .gt 7, 3) := by decide +kernel
theorem dX6_isEvery_11 : decode cX6_isEvery 11 = .ok (.iconst 1, 1) := by decide +kernel
theorem dX6_isEvery_12 : decode cX6_isEvery 12 = .ok (.goto 4, 3) := by decide +kernel
theorem dX6_isEvery_15 : decode cX6_isEvery 15 = .ok (.iconst 0, 1) := by decide +kernel
theorem dX6_isEvery_16 : decode cX6_isEvery 16 = .ok (.ireturn, 1) := by decide +kernel
theorem dX6_copyCheeses_0 : decode cX6_copyCheeses 0 = .ok (.iconst 0, 1) := by decide +kernel
theorem dX6_copyCheeses_1 : decode cX6_copyCheeses 1 = .ok (.istore_n 3, 1) := by decide +kernel
theorem dX6_copyCheeses_2 : decode cX6_copyCheeses 2 = .ok (.iload_n 3, 1) := by decide +kernel
theorem dX6_copyCheeses_3 : decode cX6_copyCheeses 3 = .ok (.iload_n 2, 1) := by decide +kernel
theorem dX6_copyCheeses_4 : decode cX6_copyCheeses 4 = .ok (.if_icmp .ge 42, 3) := by decide +kernel
theorem dX6_copyCheeses_7 : decode cX6_copyCheeses 7 = .ok (.iload_n 3, 1) := by decide +kernel
theorem dX6_copyCheeses_8 : decode cX6_copyCheeses 8 = .ok (.aload_n 0, 1) := by decide +kernel
theorem dX6_copyCheeses_9 : decode cX6_copyCheeses 9 = .ok (.arraylength, 1) := by decide +kernel
theorem dX6_copyCheeses_10 : decode cX6_copyCheeses 10 = .ok (.if_icmp .ge 36, 3) := by decide +kernel
theorem dX6_copyCheeses_13 : decode cX6_copyCheeses 13 = .ok (.iload_n 3, 1) := by decide +kernel
theorem dX6_copyCheeses_14 : decode cX6_copyCheeses 14 = .ok (.aload_n 1, 1) := by decide +kernel
theorem dX6_copyCheeses_15 : decode cX6_copyCheeses 15 = .ok (.arraylength, 1) := by decide +kernel
theorem dX6_copyCheeses_16 : decode cX6_copyCheeses 16 = .ok (.if_icmp .ge 30, 3) := by decide +kernel
theorem dX6_copyCheeses_19 : decode cX6_copyCheeses 19 = .ok (.aload_n 0, 1) := by decide +kernel
theorem dX6_copyCheeses_20 : decode cX6_copyCheeses 20 = .ok (.iload_n 3, 1) := by decide +kernel
theorem dX6_copyCheeses_21 : decode cX6_copyCheeses 21 = .ok (.aaload, 1) := by decide +kernel
theorem dX6_copyCheeses_22 : decode cX6_copyCheeses 22 = .ok (.ifnull 18, 3) := by decide +kernel
theorem dX6_copyCheeses_25 : decode cX6_copyCheeses 25 = .ok (.aload_n 1, 1) := by decide +kernel
theorem dX6_copyCheeses_26 : decode cX6_copyCheeses 26 = .ok (.iload_n 3, 1) := by decide +kernel
theorem dX6_copyCheeses_27 : decode cX6_copyCheeses 27 = .ok (.aaload, 1) := by decide +kernel
theorem dX6_copyCheeses_28 : decode cX6_copyCheeses 28 = .ok (.ifnull 12, 3) := by decide +kernel
theorem dX6_copyCheeses_31 : decode cX6_copyCheeses 31 = .ok (.aload_n 1, 1) := by decide +kernel
theorem dX6_copyCheeses_32 : decode cX6_copyCheeses 32 = .ok (.iload_n 3, 1) := by decide +kernel
theorem dX6_copyCheeses_33 : decode cX6_copyCheeses 33 = .ok (.aaload, 1) := by decide +kernel
theorem dX6_copyCheeses_34 : decode cX6_copyCheeses 34 = .ok (.aload_n 0, 1) := by decide +kernel
theorem dX6_copyCheeses_35 : decode cX6_copyCheeses 35 = .ok (.iload_n 3, 1) := by decide +kernel
theorem dX6_copyCheeses_36 : decode cX6_copyCheeses 36 = .ok (.aaload, 1) := by decide +kernel
theorem dX6_copyCheeses_37 : decode cX6_copyCheeses 37 = .ok (.invokevirtual 316, 3) := by decide +kernel
theorem dX6_copyCheeses_40 : decode cX6_copyCheeses 40 = .ok (.iinc 3 1, 3) := by decide +kernel
theorem dX6_copyCheeses_43 : decode cX6_copyCheeses 43 = .ok (.goto (-41), 3) := by decide +kernel
theorem dX6_copyCheeses_46 : decode cX6_copyCheeses 46 = .ok (.return_, 1) := by decide +kernel
theorem dX6_beginPot_0 : decode cX6_beginPot 0 = .ok (.aload_n 0, 1) := by decide +kernel
theorem dX6_beginPot_1 : decode cX6_beginPot 1 = .ok (.getfield 57, 3) := by decide +kernel
theorem dX6_beginPot_4 : decode cX6_beginPot 4 = .ok (.aload_n 0, 1) := by decide +kernel
theorem dX6_beginPot_5 : decode cX6_beginPot 5 = .ok (.getfield 27, 3) := by decide +kernel
theorem dX6_beginPot_8 : decode cX6_beginPot 8 = .ok (.iconst 0, 1) := by decide +kernel
theorem dX6_beginPot_9 : decode cX6_beginPot 9 = .ok (.iaload, 1) := by decide +kernel
theorem dX6_beginPot_10 : decode cX6_beginPot 10 = .ok (.aload_n 0, 1) := by decide +kernel
theorem dX6_beginPot_11 : decode cX6_beginPot 11 = .ok (.getfield 27, 3) := by decide +kernel
theorem dX6_beginPot_14 : decode cX6_beginPot 14 = .ok (.iconst 1, 1) := by decide +kernel
theorem dX6_beginPot_15 : decode cX6_beginPot 15 = .ok (.iaload, 1) := by decide +kernel
theorem dX6_beginPot_16 : decode cX6_beginPot 16 = .ok (.aload_n 0, 1) := by decide +kernel
theorem dX6_beginPot_17 : decode cX6_beginPot 17 = .ok (.getfield 27, 3) := by decide +kernel
theorem dX6_beginPot_20 : decode cX6_beginPot 20 = .ok (.iconst 2, 1) := by decide +kernel
theorem dX6_beginPot_21 : decode cX6_beginPot 21 = .ok (.iaload, 1) := by decide +kernel
theorem dX6_beginPot_22 : decode cX6_beginPot 22 = .ok (.aload_n 0, 1) := by decide +kernel
theorem dX6_beginPot_23 : decode cX6_beginPot 23 = .ok (.aload_n 0, 1) := by decide +kernel
theorem dX6_beginPot_24 : decode cX6_beginPot 24 = .ok (.getfield 123, 3) := by decide +kernel
theorem dX6_beginPot_27 : decode cX6_beginPot 27 = .ok (.invokevirtual 319, 3) := by decide +kernel
theorem dX6_beginPot_30 : decode cX6_beginPot 30 = .ok (.invokevirtual 323, 3) := by decide +kernel
theorem dX6_beginPot_33 : decode cX6_beginPot 33 = .ok (.return_, 1) := by decide +kernel
theorem dX6_runActs_0 : decode cX6_runActs 0 = .ok (.iload_n 1, 1) := by decide +kernel
theorem dX6_runActs_1 : decode cX6_runActs 1 = .ok (.istore_n 3, 1) := by decide +kernel
theorem dX6_runActs_2 : decode cX6_runActs 2 = .ok (.iload_n 3, 1) := by decide +kernel
theorem dX6_runActs_3 : decode cX6_runActs 3 = .ok (.iload_n 2, 1) := by decide +kernel
theorem dX6_runActs_4 : decode cX6_runActs 4 = .ok (.if_icmp .ge 39, 3) := by decide +kernel
theorem dX6_runActs_7 : decode cX6_runActs 7 = .ok (.aload_n 0, 1) := by decide +kernel
theorem dX6_runActs_8 : decode cX6_runActs 8 = .ok (.iload_n 3, 1) := by decide +kernel
theorem dX6_runActs_9 : decode cX6_runActs 9 = .ok (.invokevirtual 141, 3) := by decide +kernel
theorem dX6_runActs_12 : decode cX6_runActs 12 = .ok (.astore 4, 2) := by decide +kernel
theorem dX6_runActs_14 : decode cX6_runActs 14 = .ok (.aload 4, 2) := by decide +kernel
theorem dX6_runActs_16 : decode cX6_runActs 16 = .ok (.ifnull 21, 3) := by decide +kernel
theorem dX6_runActs_19 : decode cX6_runActs 19 = .ok (.aload_n 0, 1) := by decide +kernel
theorem dX6_runActs_20 : decode cX6_runActs 20 = .ok (.getfield 57, 3) := by decide +kernel
theorem dX6_runActs_23 : decode cX6_runActs 23 = .ok (.aload 4, 2) := by decide +kernel
theorem dX6_runActs_25 : decode cX6_runActs 25 = .ok (.aload_n 0, 1) := by decide +kernel
theorem dX6_runActs_26 : decode cX6_runActs 26 = .ok (.aload 4, 2) := by decide +kernel
theorem dX6_runActs_28 : decode cX6_runActs 28 = .ok (.getfield 155, 3) := by decide +kernel
theorem dX6_runActs_31 : decode cX6_runActs 31 = .ok (.invokevirtual 101, 3) := by decide +kernel
theorem dX6_runActs_34 : decode cX6_runActs 34 = .ok (.invokevirtual 213, 3) := by decide +kernel
theorem dX6_runActs_37 : decode cX6_runActs 37 = .ok (.iinc 3 1, 3) := by decide +kernel
theorem dX6_runActs_40 : decode cX6_runActs 40 = .ok (.goto (-38), 3) := by decide +kernel
theorem dX6_runActs_43 : decode cX6_runActs 43 = .ok (.return_, 1) := by decide +kernel
theorem dX6_cookActs_0 : decode cX6_cookActs 0 = .ok (.aload_n 0, 1) := by decide +kernel
theorem dX6_cookActs_1 : decode cX6_cookActs 1 = .ok (.invokevirtual 220, 3) := by decide +kernel
theorem dX6_cookActs_4 : decode cX6_cookActs 4 = .ok (.aload_n 0, 1) := by decide +kernel
theorem dX6_cookActs_5 : decode cX6_cookActs 5 = .ok (.iconst 0, 1) := by decide +kernel
theorem dX6_cookActs_6 : decode cX6_cookActs 6 = .ok (.iload_n 1, 1) := by decide +kernel
theorem dX6_cookActs_7 : decode cX6_cookActs 7 = .ok (.invokevirtual 223, 3) := by decide +kernel
theorem dX6_cookActs_10 : decode cX6_cookActs 10 = .ok (.return_, 1) := by decide +kernel
theorem dX6_cookDrawn_0 : decode cX6_cookDrawn 0 = .ok (.aload_n 0, 1) := by decide +kernel
theorem dX6_cookDrawn_1 : decode cX6_cookDrawn 1 = .ok (.invokevirtual 220, 3) := by decide +kernel
theorem dX6_cookDrawn_4 : decode cX6_cookDrawn 4 = .ok (.aload_n 0, 1) := by decide +kernel
theorem dX6_cookDrawn_5 : decode cX6_cookDrawn 5 = .ok (.getfield 57, 3) := by decide +kernel
theorem dX6_cookDrawn_8 : decode cX6_cookDrawn 8 = .ok (.iload_n 2, 1) := by decide +kernel
theorem dX6_cookDrawn_9 : decode cX6_cookDrawn 9 = .ok (.invokevirtual 327, 3) := by decide +kernel
theorem dX6_cookDrawn_12 : decode cX6_cookDrawn 12 = .ok (.aload_n 0, 1) := by decide +kernel
theorem dX6_cookDrawn_13 : decode cX6_cookDrawn 13 = .ok (.iconst 0, 1) := by decide +kernel
theorem dX6_cookDrawn_14 : decode cX6_cookDrawn 14 = .ok (.iload_n 1, 1) := by decide +kernel
theorem dX6_cookDrawn_15 : decode cX6_cookDrawn 15 = .ok (.invokevirtual 223, 3) := by decide +kernel
theorem dX6_cookDrawn_18 : decode cX6_cookDrawn 18 = .ok (.return_, 1) := by decide +kernel
theorem dX6_holdsWith_0 : decode cX6_holdsWith 0 = .ok (.aload_n 0, 1) := by decide +kernel
theorem dX6_holdsWith_1 : decode cX6_holdsWith 1 = .ok (.getfield 57, 3) := by decide +kernel
theorem dX6_holdsWith_4 : decode cX6_holdsWith 4 = .ok (.iload_n 1, 1) := by decide +kernel
theorem dX6_holdsWith_5 : decode cX6_holdsWith 5 = .ok (.iload_n 2, 1) := by decide +kernel
theorem dX6_holdsWith_6 : decode cX6_holdsWith 6 = .ok (.iload_n 3, 1) := by decide +kernel
theorem dX6_holdsWith_7 : decode cX6_holdsWith 7 = .ok (.aload_n 0, 1) := by decide +kernel
theorem dX6_holdsWith_8 : decode cX6_holdsWith 8 = .ok (.aload_n 0, 1) := by decide +kernel
theorem dX6_holdsWith_9 : decode cX6_holdsWith 9 = .ok (.getfield 123, 3) := by decide +kernel
theorem dX6_holdsWith_12 : decode cX6_holdsWith 12 = .ok (.invokevirtual 319, 3) := by decide +kernel
theorem dX6_holdsWith_15 : decode cX6_holdsWith 15 = .ok (.invokevirtual 323, 3) := by decide +kernel
theorem dX6_holdsWith_18 : decode cX6_holdsWith 18 = .ok (.aload_n 0, 1) := by decide +kernel
theorem dX6_holdsWith_19 : decode cX6_holdsWith 19 = .ok (.iconst 0, 1) := by decide +kernel
theorem dX6_holdsWith_20 : decode cX6_holdsWith 20 = .ok (.aload_n 0, 1) := by decide +kernel
theorem dX6_holdsWith_21 : decode cX6_holdsWith 21 = .ok (.getfield 120, 3) := by decide +kernel
theorem dX6_holdsWith_24 : decode cX6_holdsWith 24 = .ok (.invokevirtual 223, 3) := by decide +kernel
theorem dX6_holdsWith_27 : decode cX6_holdsWith 27 = .ok (.aload_n 0, 1) := by decide +kernel
theorem dX6_holdsWith_28 : decode cX6_holdsWith 28 = .ok (.getfield 57, 3) := by decide +kernel
theorem dX6_holdsWith_31 : decode cX6_holdsWith 31 = .ok (.invokevirtual 184, 3) := by decide +kernel
theorem dX6_holdsWith_34 : decode cX6_holdsWith 34 = .ok (.ireturn, 1) := by decide +kernel
theorem dX6_firstSplit_0 : decode cX6_firstSplit 0 = .ok (.aload_n 0, 1) := by decide +kernel
theorem dX6_firstSplit_1 : decode cX6_firstSplit 1 = .ok (.invokevirtual 220, 3) := by decide +kernel
theorem dX6_firstSplit_4 : decode cX6_firstSplit 4 = .ok (.iconst 0, 1) := by decide +kernel
theorem dX6_firstSplit_5 : decode cX6_firstSplit 5 = .ok (.istore_n 1, 1) := by decide +kernel
theorem dX6_firstSplit_6 : decode cX6_firstSplit 6 = .ok (.iload_n 1, 1) := by decide +kernel
theorem dX6_firstSplit_7 : decode cX6_firstSplit 7 = .ok (.aload_n 0, 1) := by decide +kernel
theorem dX6_firstSplit_8 : decode cX6_firstSplit 8 = .ok (.getfield 120, 3) := by decide +kernel
theorem dX6_firstSplit_11 : decode cX6_firstSplit 11 = .ok (.if_icmp .ge 29, 3) := by decide +kernel
theorem dX6_firstSplit_14 : decode cX6_firstSplit 14 = .ok (.aload_n 0, 1) := by decide +kernel
theorem dX6_firstSplit_15 : decode cX6_firstSplit 15 = .ok (.iload_n 1, 1) := by decide +kernel
theorem dX6_firstSplit_16 : decode cX6_firstSplit 16 = .ok (.iload_n 1, 1) := by decide +kernel
theorem dX6_firstSplit_17 : decode cX6_firstSplit 17 = .ok (.iconst 1, 1) := by decide +kernel
theorem dX6_firstSplit_18 : decode cX6_firstSplit 18 = .ok (.iadd, 1) := by decide +kernel
theorem dX6_firstSplit_19 : decode cX6_firstSplit 19 = .ok (.invokevirtual 223, 3) := by decide +kernel
theorem dX6_firstSplit_22 : decode cX6_firstSplit 22 = .ok (.aload_n 0, 1) := by decide +kernel
theorem dX6_firstSplit_23 : decode cX6_firstSplit 23 = .ok (.getfield 57, 3) := by decide +kernel
theorem dX6_firstSplit_26 : decode cX6_firstSplit 26 = .ok (.invokevirtual 184, 3) := by decide +kernel
theorem dX6_firstSplit_29 : decode cX6_firstSplit 29 = .ok (.ifCond .ne 5, 3) := by decide +kernel
theorem dX6_firstSplit_32 : decode cX6_firstSplit 32 = .ok (.iload_n 1, 1) := by decide +kernel
theorem dX6_firstSplit_33 : decode cX6_firstSplit 33 = .ok (.ireturn, 1) := by decide +kernel
theorem dX6_firstSplit_34 : decode cX6_firstSplit 34 = .ok (.iinc 1 1, 3) := by decide +kernel
theorem dX6_firstSplit_37 : decode cX6_firstSplit 37 = .ok (.goto (-31), 3) := by decide +kernel
theorem dX6_firstSplit_40 : decode cX6_firstSplit 40 = .ok (.iconst (-1), 1) := by decide +kernel
theorem dX6_firstSplit_41 : decode cX6_firstSplit 41 = .ok (.ireturn, 1) := by decide +kernel
theorem dX6_greatestLeak_0 : decode cX6_greatestLeak 0 = .ok (.aload_n 0, 1) := by decide +kernel
theorem dX6_greatestLeak_1 : decode cX6_greatestLeak 1 = .ok (.invokevirtual 220, 3) := by decide +kernel
theorem dX6_greatestLeak_4 : decode cX6_greatestLeak 4 = .ok (.iconst (-1), 1) := by decide +kernel
theorem dX6_greatestLeak_5 : decode cX6_greatestLeak 5 = .ok (.istore_n 1, 1) := by decide +kernel
theorem dX6_greatestLeak_6 : decode cX6_greatestLeak 6 = .ok (.iconst 0, 1) := by decide +kernel
theorem dX6_greatestLeak_7 : decode cX6_greatestLeak 7 = .ok (.istore_n 2, 1) := by decide +kernel
theorem dX6_greatestLeak_8 : decode cX6_greatestLeak 8 = .ok (.iconst 0, 1) := by decide +kernel
theorem dX6_greatestLeak_9 : decode cX6_greatestLeak 9 = .ok (.istore_n 3, 1) := by decide +kernel
theorem dX6_greatestLeak_10 : decode cX6_greatestLeak 10 = .ok (.iload_n 3, 1) := by decide +kernel
theorem dX6_greatestLeak_11 : decode cX6_greatestLeak 11 = .ok (.aload_n 0, 1) := by decide +kernel
theorem dX6_greatestLeak_12 : decode cX6_greatestLeak 12 = .ok (.getfield 120, 3) := by decide +kernel
theorem dX6_greatestLeak_15 : decode cX6_greatestLeak 15 = .ok (.if_icmp .ge 53, 3) := by decide +kernel
theorem dX6_greatestLeak_18 : decode cX6_greatestLeak 18 = .ok (.aload_n 0, 1) := by decide +kernel
theorem dX6_greatestLeak_19 : decode cX6_greatestLeak 19 = .ok (.getfield 57, 3) := by decide +kernel
theorem dX6_greatestLeak_22 : decode cX6_greatestLeak 22 = .ok (.getfield 217, 3) := by decide +kernel
theorem dX6_greatestLeak_25 : decode cX6_greatestLeak 25 = .ok (.istore 4, 2) := by decide +kernel
theorem dX6_greatestLeak_27 : decode cX6_greatestLeak 27 = .ok (.aload_n 0, 1) := by decide +kernel
theorem dX6_greatestLeak_28 : decode cX6_greatestLeak 28 = .ok (.iload_n 3, 1) := by decide +kernel
theorem dX6_greatestLeak_29 : decode cX6_greatestLeak 29 = .ok (.iload_n 3, 1) := by decide +kernel
theorem dX6_greatestLeak_30 : decode cX6_greatestLeak 30 = .ok (.iconst 1, 1) := by decide +kernel
theorem dX6_greatestLeak_31 : decode cX6_greatestLeak 31 = .ok (.iadd, 1) := by decide +kernel
theorem dX6_greatestLeak_32 : decode cX6_greatestLeak 32 = .ok (.invokevirtual 223, 3) := by decide +kernel
theorem dX6_greatestLeak_35 : decode cX6_greatestLeak 35 = .ok (.aload_n 0, 1) := by decide +kernel
theorem dX6_greatestLeak_36 : decode cX6_greatestLeak 36 = .ok (.getfield 57, 3) := by decide +kernel
theorem dX6_greatestLeak_39 : decode cX6_greatestLeak 39 = .ok (.getfield 217, 3) := by decide +kernel
theorem dX6_greatestLeak_42 : decode cX6_greatestLeak 42 = .ok (.iload 4, 2) := by decide +kernel
theorem dX6_greatestLeak_44 : decode cX6_greatestLeak 44 = .ok (.isub, 1) := by decide +kernel
theorem dX6_greatestLeak_45 : decode cX6_greatestLeak 45 = .ok (.iload_n 2, 1) := by decide +kernel
theorem dX6_greatestLeak_46 : decode cX6_greatestLeak 46 = .ok (.if_icmp .le 16, 3) := by decide +kernel
theorem dX6_greatestLeak_49 : decode cX6_greatestLeak 49 = .ok (.iload_n 3, 1) := by decide +kernel
theorem dX6_greatestLeak_50 : decode cX6_greatestLeak 50 = .ok (.istore_n 1, 1) := by decide +kernel
theorem dX6_greatestLeak_51 : decode cX6_greatestLeak 51 = .ok (.aload_n 0, 1) := by decide +kernel
theorem dX6_greatestLeak_52 : decode cX6_greatestLeak 52 = .ok (.getfield 57, 3) := by decide +kernel
theorem dX6_greatestLeak_55 : decode cX6_greatestLeak 55 = .ok (.getfield 217, 3) := by decide +kernel
theorem dX6_greatestLeak_58 : decode cX6_greatestLeak 58 = .ok (.iload 4, 2) := by decide +kernel
theorem dX6_greatestLeak_60 : decode cX6_greatestLeak 60 = .ok (.isub, 1) := by decide +kernel
theorem dX6_greatestLeak_61 : decode cX6_greatestLeak 61 = .ok (.istore_n 2, 1) := by decide +kernel
theorem dX6_greatestLeak_62 : decode cX6_greatestLeak 62 = .ok (.iinc 3 1, 3) := by decide +kernel
theorem dX6_greatestLeak_65 : decode cX6_greatestLeak 65 = .ok (.goto (-55), 3) := by decide +kernel
theorem dX6_greatestLeak_68 : decode cX6_greatestLeak 68 = .ok (.iload_n 1, 1) := by decide +kernel
theorem dX6_greatestLeak_69 : decode cX6_greatestLeak 69 = .ok (.ireturn, 1) := by decide +kernel
theorem dX6_sitAtTable_0 : decode cX6_sitAtTable 0 = .ok (.iconst 0, 1) := by decide +kernel
theorem dX6_sitAtTable_1 : decode cX6_sitAtTable 1 = .ok (.istore_n 3, 1) := by decide +kernel
theorem dX6_sitAtTable_2 : decode cX6_sitAtTable 2 = .ok (.aload_n 0, 1) := by decide +kernel
theorem dX6_sitAtTable_3 : decode cX6_sitAtTable 3 = .ok (.invokevirtual 184, 3) := by decide +kernel
theorem dX6_sitAtTable_6 : decode cX6_sitAtTable 6 = .ok (.istore 4, 2) := by decide +kernel
theorem dX6_sitAtTable_8 : decode cX6_sitAtTable 8 = .ok (.iconst 1, 1) := by decide +kernel
theorem dX6_sitAtTable_9 : decode cX6_sitAtTable 9 = .ok (.istore 5, 2) := by decide +kernel
theorem dX6_sitAtTable_11 : decode cX6_sitAtTable 11 = .ok (.iload 5, 2) := by decide +kernel
theorem dX6_sitAtTable_13 : decode cX6_sitAtTable 13 = .ok (.iload_n 1, 1) := by decide +kernel
theorem dX6_sitAtTable_14 : decode cX6_sitAtTable 14 = .ok (.if_icmp .gt 70, 3) := by decide +kernel
theorem dX6_sitAtTable_17 : decode cX6_sitAtTable 17 = .ok (.iload_n 2, 1) := by decide +kernel
theorem dX6_sitAtTable_18 : decode cX6_sitAtTable 18 = .ok (.ifCond .le 14, 3) := by decide +kernel
theorem dX6_sitAtTable_21 : decode cX6_sitAtTable 21 = .ok (.iload 5, 2) := by decide +kernel
theorem dX6_sitAtTable_23 : decode cX6_sitAtTable 23 = .ok (.iload_n 2, 1) := by decide +kernel
theorem dX6_sitAtTable_24 : decode cX6_sitAtTable 24 = .ok (.irem, 1) := by decide +kernel
theorem dX6_sitAtTable_25 : decode cX6_sitAtTable 25 = .ok (.ifCond .ne 7, 3) := by decide +kernel
theorem dX6_sitAtTable_28 : decode cX6_sitAtTable 28 = .ok (.iconst 1, 1) := by decide +kernel
theorem dX6_sitAtTable_29 : decode cX6_sitAtTable 29 = .ok (.goto 4, 3) := by decide +kernel
theorem dX6_sitAtTable_32 : decode cX6_sitAtTable 32 = .ok (.iconst 0, 1) := by decide +kernel
theorem dX6_sitAtTable_33 : decode cX6_sitAtTable 33 = .ok (.istore 6, 2) := by decide +kernel
theorem dX6_sitAtTable_35 : decode cX6_sitAtTable 35 = .ok (.iload 6, 2) := by decide +kernel
theorem dX6_sitAtTable_37 : decode cX6_sitAtTable 37 = .ok (.ifCond .eq 8, 3) := by decide +kernel
theorem dX6_sitAtTable_40 : decode cX6_sitAtTable 40 = .ok (.aload_n 0, 1) := by decide +kernel
theorem dX6_sitAtTable_41 : decode cX6_sitAtTable 41 = .ok (.iconst 2, 1) := by decide +kernel
theorem dX6_sitAtTable_42 : decode cX6_sitAtTable 42 = .ok (.invokevirtual 226, 3) := by decide +kernel
theorem dX6_sitAtTable_45 : decode cX6_sitAtTable 45 = .ok (.aload_n 0, 1) := by decide +kernel
theorem dX6_sitAtTable_46 : decode cX6_sitAtTable 46 = .ok (.iload 6, 2) := by decide +kernel
theorem dX6_sitAtTable_48 : decode cX6_sitAtTable 48 = .ok (.invokevirtual 187, 3) := by decide +kernel
theorem dX6_sitAtTable_51 : decode cX6_sitAtTable 51 = .ok (.iload 4, 2) := by decide +kernel
theorem dX6_sitAtTable_53 : decode cX6_sitAtTable 53 = .ok (.ifCond .eq 14, 3) := by decide +kernel
theorem dX6_sitAtTable_56 : decode cX6_sitAtTable 56 = .ok (.aload_n 0, 1) := by decide +kernel
theorem dX6_sitAtTable_57 : decode cX6_sitAtTable 57 = .ok (.invokevirtual 184, 3) := by decide +kernel
theorem dX6_sitAtTable_60 : decode cX6_sitAtTable 60 = .ok (.ifCond .eq 7, 3) := by decide +kernel
theorem dX6_sitAtTable_63 : decode cX6_sitAtTable 63 = .ok (.iconst 1, 1) := by decide +kernel
theorem dX6_sitAtTable_64 : decode cX6_sitAtTable 64 = .ok (.goto 4, 3) := by decide +kernel
theorem dX6_sitAtTable_67 : decode cX6_sitAtTable 67 = .ok (.iconst 0, 1) := by decide +kernel
theorem dX6_sitAtTable_68 : decode cX6_sitAtTable 68 = .ok (.istore 4, 2) := by decide +kernel
theorem dX6_sitAtTable_70 : decode cX6_sitAtTable 70 = .ok (.iload 4, 2) := by decide +kernel
theorem dX6_sitAtTable_72 : decode cX6_sitAtTable 72 = .ok (.ifCond .eq 6, 3) := by decide +kernel
theorem dX6_sitAtTable_75 : decode cX6_sitAtTable 75 = .ok (.iinc 3 1, 3) := by decide +kernel
theorem dX6_sitAtTable_78 : decode cX6_sitAtTable 78 = .ok (.iinc 5 1, 3) := by decide +kernel
theorem dX6_sitAtTable_81 : decode cX6_sitAtTable 81 = .ok (.goto (-70), 3) := by decide +kernel
theorem dX6_sitAtTable_84 : decode cX6_sitAtTable 84 = .ok (.iload_n 3, 1) := by decide +kernel
theorem dX6_sitAtTable_85 : decode cX6_sitAtTable 85 = .ok (.ireturn, 1) := by decide +kernel
theorem dX6_refusedAsTest_0 : decode cX6_refusedAsTest 0 = .ok (.aload_n 1, 1) := by decide +kernel
theorem dX6_refusedAsTest_1 : decode cX6_refusedAsTest 1 = .ok (.ifnonnull 6, 3) := by decide +kernel
theorem dX6_refusedAsTest_4 : decode cX6_refusedAsTest 4 = .ok (.bipush (-2), 2) := by decide +kernel
theorem dX6_refusedAsTest_6 : decode cX6_refusedAsTest 6 = .ok (.ireturn, 1) := by decide +kernel
theorem dX6_refusedAsTest_7 : decode cX6_refusedAsTest 7 = .ok (.aload_n 1, 1) := by decide +kernel
theorem dX6_refusedAsTest_8 : decode cX6_refusedAsTest 8 = .ok (.invokevirtual 297, 3) := by decide +kernel
theorem dX6_refusedAsTest_11 : decode cX6_refusedAsTest 11 = .ok (.ifCond .eq 6, 3) := by decide +kernel
theorem dX6_refusedAsTest_14 : decode cX6_refusedAsTest 14 = .ok (.bipush (-11), 2) := by decide +kernel
theorem dX6_refusedAsTest_16 : decode cX6_refusedAsTest 16 = .ok (.ireturn, 1) := by decide +kernel
theorem dX6_refusedAsTest_17 : decode cX6_refusedAsTest 17 = .ok (.aload_n 1, 1) := by decide +kernel
theorem dX6_refusedAsTest_18 : decode cX6_refusedAsTest 18 = .ok (.getfield 330, 3) := by decide +kernel
theorem dX6_refusedAsTest_21 : decode cX6_refusedAsTest 21 = .ok (.aload_n 0, 1) := by decide +kernel
theorem dX6_refusedAsTest_22 : decode cX6_refusedAsTest 22 = .ok (.getfield 120, 3) := by decide +kernel
theorem dX6_refusedAsTest_25 : decode cX6_refusedAsTest 25 = .ok (.if_icmp .ne 7, 3) := by decide +kernel
theorem dX6_refusedAsTest_28 : decode cX6_refusedAsTest 28 = .ok (.iconst 0, 1) := by decide +kernel
theorem dX6_refusedAsTest_29 : decode cX6_refusedAsTest 29 = .ok (.goto 5, 3) := by decide +kernel
theorem dX6_refusedAsTest_32 : decode cX6_refusedAsTest 32 = .ok (.bipush (-2), 2) := by decide +kernel
theorem dX6_refusedAsTest_34 : decode cX6_refusedAsTest 34 = .ok (.ireturn, 1) := by decide +kernel
theorem dX6_oilIsAsTold_0 : decode cX6_oilIsAsTold 0 = .ok (.aload_n 0, 1) := by decide +kernel
theorem dX6_oilIsAsTold_1 : decode cX6_oilIsAsTold 1 = .ok (.getfield 57, 3) := by decide +kernel
theorem dX6_oilIsAsTold_4 : decode cX6_oilIsAsTold 4 = .ok (.aload_n 0, 1) := by decide +kernel
theorem dX6_oilIsAsTold_5 : decode cX6_oilIsAsTold 5 = .ok (.getfield 27, 3) := by decide +kernel
theorem dX6_oilIsAsTold_8 : decode cX6_oilIsAsTold 8 = .ok (.iconst 0, 1) := by decide +kernel
theorem dX6_oilIsAsTold_9 : decode cX6_oilIsAsTold 9 = .ok (.iaload, 1) := by decide +kernel
theorem dX6_oilIsAsTold_10 : decode cX6_oilIsAsTold 10 = .ok (.aload_n 0, 1) := by decide +kernel
theorem dX6_oilIsAsTold_11 : decode cX6_oilIsAsTold 11 = .ok (.getfield 27, 3) := by decide +kernel
theorem dX6_oilIsAsTold_14 : decode cX6_oilIsAsTold 14 = .ok (.iconst 1, 1) := by decide +kernel
theorem dX6_oilIsAsTold_15 : decode cX6_oilIsAsTold 15 = .ok (.iaload, 1) := by decide +kernel
theorem dX6_oilIsAsTold_16 : decode cX6_oilIsAsTold 16 = .ok (.aload_n 0, 1) := by decide +kernel
theorem dX6_oilIsAsTold_17 : decode cX6_oilIsAsTold 17 = .ok (.getfield 27, 3) := by decide +kernel
theorem dX6_oilIsAsTold_20 : decode cX6_oilIsAsTold 20 = .ok (.iconst 2, 1) := by decide +kernel
theorem dX6_oilIsAsTold_21 : decode cX6_oilIsAsTold 21 = .ok (.iaload, 1) := by decide +kernel
theorem dX6_oilIsAsTold_22 : decode cX6_oilIsAsTold 22 = .ok (.aload_n 0, 1) := by decide +kernel
theorem dX6_oilIsAsTold_23 : decode cX6_oilIsAsTold 23 = .ok (.iload_n 2, 1) := by decide +kernel
theorem dX6_oilIsAsTold_24 : decode cX6_oilIsAsTold 24 = .ok (.invokevirtual 319, 3) := by decide +kernel
theorem dX6_oilIsAsTold_27 : decode cX6_oilIsAsTold 27 = .ok (.invokevirtual 323, 3) := by decide +kernel
theorem dX6_oilIsAsTold_30 : decode cX6_oilIsAsTold 30 = .ok (.iconst 0, 1) := by decide +kernel
theorem dX6_oilIsAsTold_31 : decode cX6_oilIsAsTold 31 = .ok (.istore_n 3, 1) := by decide +kernel
theorem dX6_oilIsAsTold_32 : decode cX6_oilIsAsTold 32 = .ok (.iload_n 3, 1) := by decide +kernel
theorem dX6_oilIsAsTold_33 : decode cX6_oilIsAsTold 33 = .ok (.aload_n 0, 1) := by decide +kernel
theorem dX6_oilIsAsTold_34 : decode cX6_oilIsAsTold 34 = .ok (.getfield 120, 3) := by decide +kernel
theorem dX6_oilIsAsTold_37 : decode cX6_oilIsAsTold 37 = .ok (.if_icmp .ge 34, 3) := by decide +kernel
theorem dX6_oilIsAsTold_40 : decode cX6_oilIsAsTold 40 = .ok (.aload_n 0, 1) := by decide +kernel
theorem dX6_oilIsAsTold_41 : decode cX6_oilIsAsTold 41 = .ok (.iload_n 3, 1) := by decide +kernel
theorem dX6_oilIsAsTold_42 : decode cX6_oilIsAsTold 42 = .ok (.iload_n 3, 1) := by decide +kernel
theorem dX6_oilIsAsTold_43 : decode cX6_oilIsAsTold 43 = .ok (.iconst 1, 1) := by decide +kernel
theorem dX6_oilIsAsTold_44 : decode cX6_oilIsAsTold 44 = .ok (.iadd, 1) := by decide +kernel
theorem dX6_oilIsAsTold_45 : decode cX6_oilIsAsTold 45 = .ok (.invokevirtual 223, 3) := by decide +kernel
theorem dX6_oilIsAsTold_48 : decode cX6_oilIsAsTold 48 = .ok (.aload_n 0, 1) := by decide +kernel
theorem dX6_oilIsAsTold_49 : decode cX6_oilIsAsTold 49 = .ok (.getfield 57, 3) := by decide +kernel
theorem dX6_oilIsAsTold_52 : decode cX6_oilIsAsTold 52 = .ok (.getfield 217, 3) := by decide +kernel
theorem dX6_oilIsAsTold_55 : decode cX6_oilIsAsTold 55 = .ok (.aload_n 1, 1) := by decide +kernel
theorem dX6_oilIsAsTold_56 : decode cX6_oilIsAsTold 56 = .ok (.iload_n 3, 1) := by decide +kernel
theorem dX6_oilIsAsTold_57 : decode cX6_oilIsAsTold 57 = .ok (.invokevirtual 266, 3) := by decide +kernel
theorem dX6_oilIsAsTold_60 : decode cX6_oilIsAsTold 60 = .ok (.if_icmp .eq 5, 3) := by decide +kernel
theorem dX6_oilIsAsTold_63 : decode cX6_oilIsAsTold 63 = .ok (.iconst 0, 1) := by decide +kernel
theorem dX6_oilIsAsTold_64 : decode cX6_oilIsAsTold 64 = .ok (.ireturn, 1) := by decide +kernel
theorem dX6_oilIsAsTold_65 : decode cX6_oilIsAsTold 65 = .ok (.iinc 3 1, 3) := by decide +kernel
theorem dX6_oilIsAsTold_68 : decode cX6_oilIsAsTold 68 = .ok (.goto (-36), 3) := by decide +kernel
theorem dX6_oilIsAsTold_71 : decode cX6_oilIsAsTold 71 = .ok (.iconst 1, 1) := by decide +kernel
theorem dX6_oilIsAsTold_72 : decode cX6_oilIsAsTold 72 = .ok (.ireturn, 1) := by decide +kernel
theorem dX6_lowestTerm_0 : decode cX6_lowestTerm 0 = .ok (.iload_n 2, 1) := by decide +kernel
theorem dX6_lowestTerm_1 : decode cX6_lowestTerm 1 = .ok (.ifCond .ne 7, 3) := by decide +kernel
theorem dX6_lowestTerm_4 : decode cX6_lowestTerm 4 = .ok (.iload_n 0, 1) := by decide +kernel
theorem dX6_lowestTerm_5 : decode cX6_lowestTerm 5 = .ok (.goto 4, 3) := by decide +kernel
theorem dX6_lowestTerm_8 : decode cX6_lowestTerm 8 = .ok (.iload_n 1, 1) := by decide +kernel
theorem dX6_lowestTerm_9 : decode cX6_lowestTerm 9 = .ok (.istore_n 3, 1) := by decide +kernel
theorem dX6_lowestTerm_10 : decode cX6_lowestTerm 10 = .ok (.iload_n 1, 1) := by decide +kernel
theorem dX6_lowestTerm_11 : decode cX6_lowestTerm 11 = .ok (.istore 4, 2) := by decide +kernel
theorem dX6_lowestTerm_13 : decode cX6_lowestTerm 13 = .ok (.iload 4, 2) := by decide +kernel
theorem dX6_lowestTerm_15 : decode cX6_lowestTerm 15 = .ok (.iconst 1, 1) := by decide +kernel
theorem dX6_lowestTerm_16 : decode cX6_lowestTerm 16 = .ok (.if_icmp .le 28, 3) := by decide +kernel
theorem dX6_lowestTerm_19 : decode cX6_lowestTerm 19 = .ok (.iload_n 0, 1) := by decide +kernel
theorem dX6_lowestTerm_20 : decode cX6_lowestTerm 20 = .ok (.iload 4, 2) := by decide +kernel
theorem dX6_lowestTerm_22 : decode cX6_lowestTerm 22 = .ok (.irem, 1) := by decide +kernel
theorem dX6_lowestTerm_23 : decode cX6_lowestTerm 23 = .ok (.ifCond .ne 15, 3) := by decide +kernel
theorem dX6_lowestTerm_26 : decode cX6_lowestTerm 26 = .ok (.iload_n 1, 1) := by decide +kernel
theorem dX6_lowestTerm_27 : decode cX6_lowestTerm 27 = .ok (.iload 4, 2) := by decide +kernel
theorem dX6_lowestTerm_29 : decode cX6_lowestTerm 29 = .ok (.irem, 1) := by decide +kernel
theorem dX6_lowestTerm_30 : decode cX6_lowestTerm 30 = .ok (.ifCond .ne 8, 3) := by decide +kernel
theorem dX6_lowestTerm_33 : decode cX6_lowestTerm 33 = .ok (.iload_n 3, 1) := by decide +kernel
theorem dX6_lowestTerm_34 : decode cX6_lowestTerm 34 = .ok (.iload 4, 2) := by decide +kernel
theorem dX6_lowestTerm_36 : decode cX6_lowestTerm 36 = .ok (.idiv, 1) := by decide +kernel
theorem dX6_lowestTerm_37 : decode cX6_lowestTerm 37 = .ok (.ireturn, 1) := by decide +kernel
theorem dX6_lowestTerm_38 : decode cX6_lowestTerm 38 = .ok (.iinc 4 (-1), 3) := by decide +kernel
theorem dX6_lowestTerm_41 : decode cX6_lowestTerm 41 = .ok (.goto (-28), 3) := by decide +kernel
theorem dX6_lowestTerm_44 : decode cX6_lowestTerm 44 = .ok (.iload_n 3, 1) := by decide +kernel
theorem dX6_lowestTerm_45 : decode cX6_lowestTerm 45 = .ok (.ireturn, 1) := by decide +kernel
theorem dJ11_isValidCodePoint_9a6ad_0 : decode cJ11_isValidCodePoint_9a6ad 0 = .ok (.iload_n 0, 1) := by decide +kernel
theorem dJ11_isValidCodePoint_9a6ad_1 : decode cJ11_isValidCodePoint_9a6ad 1 = .ok (.bipush 16, 2) := by decide +kernel
theorem dJ11_isValidCodePoint_9a6ad_3 : decode cJ11_isValidCodePoint_9a6ad 3 = .ok (.iushr, 1) := by decide +kernel
theorem dJ11_isValidCodePoint_9a6ad_4 : decode cJ11_isValidCodePoint_9a6ad 4 = .ok (.istore_n 1, 1) := by decide +kernel
theorem dJ11_isValidCodePoint_9a6ad_5 : decode cJ11_isValidCodePoint_9a6ad 5 = .ok (.iload_n 1, 1) := by decide +kernel
theorem dJ11_isValidCodePoint_9a6ad_6 : decode cJ11_isValidCodePoint_9a6ad 6 = .ok (.bipush 17, 2) := by decide +kernel
theorem dJ11_isValidCodePoint_9a6ad_8 : decode cJ11_isValidCodePoint_9a6ad 8 = .ok (.if_icmp .ge 7, 3) := by decide +kernel
theorem dJ11_isValidCodePoint_9a6ad_11 : decode cJ11_isValidCodePoint_9a6ad 11 = .ok (.iconst 1, 1) := by decide +kernel
theorem dJ11_isValidCodePoint_9a6ad_12 : decode cJ11_isValidCodePoint_9a6ad 12 = .ok (.goto 4, 3) := by decide +kernel
theorem dJ11_isValidCodePoint_9a6ad_15 : decode cJ11_isValidCodePoint_9a6ad 15 = .ok (.iconst 0, 1) := by decide +kernel
theorem dJ11_isValidCodePoint_9a6ad_16 : decode cJ11_isValidCodePoint_9a6ad 16 = .ok (.ireturn, 1) := by decide +kernel
theorem dJ11_highSurrogate_5068e_0 : decode cJ11_highSurrogate_5068e 0 = .ok (.iload_n 0, 1) := by decide +kernel
theorem dJ11_highSurrogate_5068e_1 : decode cJ11_highSurrogate_5068e 1 = .ok (.bipush 10, 2) := by decide +kernel
theorem dJ11_highSurrogate_5068e_3 : decode cJ11_highSurrogate_5068e 3 = .ok (.iushr, 1) := by decide +kernel
theorem dJ11_highSurrogate_5068e_4 : decode cJ11_highSurrogate_5068e 4 = .ok (.ldc 110, 2) := by decide +kernel
theorem dJ11_highSurrogate_5068e_6 : decode cJ11_highSurrogate_5068e 6 = .ok (.iadd, 1) := by decide +kernel
theorem dJ11_highSurrogate_5068e_7 : decode cJ11_highSurrogate_5068e 7 = .ok (.i2c, 1) := by decide +kernel
theorem dJ11_highSurrogate_5068e_8 : decode cJ11_highSurrogate_5068e 8 = .ok (.ireturn, 1) := by decide +kernel
theorem dJ11_lowSurrogate_5068e_0 : decode cJ11_lowSurrogate_5068e 0 = .ok (.iload_n 0, 1) := by decide +kernel
theorem dJ11_lowSurrogate_5068e_1 : decode cJ11_lowSurrogate_5068e 1 = .ok (.sipush 1023, 3) := by decide +kernel
theorem dJ11_lowSurrogate_5068e_4 : decode cJ11_lowSurrogate_5068e 4 = .ok (.iand, 1) := by decide +kernel
theorem dJ11_lowSurrogate_5068e_5 : decode cJ11_lowSurrogate_5068e 5 = .ok (.ldc 76, 2) := by decide +kernel
theorem dJ11_lowSurrogate_5068e_7 : decode cJ11_lowSurrogate_5068e 7 = .ok (.iadd, 1) := by decide +kernel
theorem dJ11_lowSurrogate_5068e_8 : decode cJ11_lowSurrogate_5068e 8 = .ok (.i2c, 1) := by decide +kernel
theorem dJ11_lowSurrogate_5068e_9 : decode cJ11_lowSurrogate_5068e 9 = .ok (.ireturn, 1) := by decide +kernel
theorem dJ9_max_7cf53_0 : decode cJ9_max_7cf53 0 = .ok (.iload_n 0, 1) := by decide +kernel
theorem dJ9_max_7cf53_1 : decode cJ9_max_7cf53 1 = .ok (.iload_n 1, 1) := by decide +kernel
theorem dJ9_max_7cf53_2 : decode cJ9_max_7cf53 2 = .ok (.if_icmp .lt 7, 3) := by decide +kernel
theorem dJ9_max_7cf53_5 : decode cJ9_max_7cf53 5 = .ok (.iload_n 0, 1) := by decide +kernel
theorem dJ9_max_7cf53_6 : decode cJ9_max_7cf53 6 = .ok (.goto 4, 3) := by decide +kernel
theorem dJ9_max_7cf53_9 : decode cJ9_max_7cf53 9 = .ok (.iload_n 1, 1) := by decide +kernel
theorem dJ9_max_7cf53_10 : decode cJ9_max_7cf53 10 = .ok (.ireturn, 1) := by decide +kernel
theorem dJ9_min_7cf53_0 : decode cJ9_min_7cf53 0 = .ok (.iload_n 0, 1) := by decide +kernel
theorem dJ9_min_7cf53_1 : decode cJ9_min_7cf53 1 = .ok (.iload_n 1, 1) := by decide +kernel
theorem dJ9_min_7cf53_2 : decode cJ9_min_7cf53 2 = .ok (.if_icmp .gt 7, 3) := by decide +kernel
theorem dJ9_min_7cf53_5 : decode cJ9_min_7cf53 5 = .ok (.iload_n 0, 1) := by decide +kernel
theorem dJ9_min_7cf53_6 : decode cJ9_min_7cf53 6 = .ok (.goto 4, 3) := by decide +kernel
theorem dJ9_min_7cf53_9 : decode cJ9_min_7cf53 9 = .ok (.iload_n 1, 1) := by decide +kernel
theorem dJ9_min_7cf53_10 : decode cJ9_min_7cf53 10 = .ok (.ireturn, 1) := by decide +kernel
theorem dJ0_length_8abf5_0 : decode cJ0_length_8abf5 0 = .ok (.aload_n 0, 1) := by decide +kernel
theorem dJ0_length_8abf5_1 : decode cJ0_length_8abf5 1 = .ok (.getfield 9, 3) := by decide +kernel
theorem dJ0_length_8abf5_4 : decode cJ0_length_8abf5 4 = .ok (.arraylength, 1) := by decide +kernel
theorem dJ0_length_8abf5_5 : decode cJ0_length_8abf5 5 = .ok (.aload_n 0, 1) := by decide +kernel
theorem dJ0_length_8abf5_6 : decode cJ0_length_8abf5 6 = .ok (.invokevirtual 335, 3) := by decide +kernel
theorem dJ0_length_8abf5_9 : decode cJ0_length_8abf5 9 = .ok (.ishr, 1) := by decide +kernel
theorem dJ0_length_8abf5_10 : decode cJ0_length_8abf5 10 = .ok (.ireturn, 1) := by decide +kernel
theorem dJ0_charAt_5068e_0 : decode cJ0_charAt_5068e 0 = .ok (.aload_n 0, 1) := by decide +kernel
theorem dJ0_charAt_5068e_1 : decode cJ0_charAt_5068e 1 = .ok (.invokevirtual 492, 3) := by decide +kernel
theorem dJ0_charAt_5068e_4 : decode cJ0_charAt_5068e 4 = .ok (.ifCond .eq 12, 3) := by decide +kernel
theorem dJ0_charAt_5068e_7 : decode cJ0_charAt_5068e 7 = .ok (.aload_n 0, 1) := by decide +kernel
theorem dJ0_charAt_5068e_8 : decode cJ0_charAt_5068e 8 = .ok (.getfield 9, 3) := by decide +kernel
theorem dJ0_charAt_5068e_11 : decode cJ0_charAt_5068e 11 = .ok (.iload_n 1, 1) := by decide +kernel
theorem dJ0_charAt_5068e_12 : decode cJ0_charAt_5068e 12 = .ok (.invokestatic 495, 3) := by decide +kernel
theorem dJ0_charAt_5068e_15 : decode cJ0_charAt_5068e 15 = .ok (.ireturn, 1) := by decide +kernel
theorem dJ0_charAt_5068e_16 : decode cJ0_charAt_5068e 16 = .ok (.aload_n 0, 1) := by decide +kernel
theorem dJ0_charAt_5068e_17 : decode cJ0_charAt_5068e 17 = .ok (.getfield 9, 3) := by decide +kernel
theorem dJ0_charAt_5068e_20 : decode cJ0_charAt_5068e 20 = .ok (.iload_n 1, 1) := by decide +kernel
theorem dJ0_charAt_5068e_21 : decode cJ0_charAt_5068e 21 = .ok (.invokestatic 498, 3) := by decide +kernel
theorem dJ0_charAt_5068e_24 : decode cJ0_charAt_5068e 24 = .ok (.ireturn, 1) := by decide +kernel
theorem dJ0_indexOf_0f7a4_0 : decode cJ0_indexOf_0f7a4 0 = .ok (.aload_n 0, 1) := by decide +kernel
theorem dJ0_indexOf_0f7a4_1 : decode cJ0_indexOf_0f7a4 1 = .ok (.iload_n 1, 1) := by decide +kernel
theorem dJ0_indexOf_0f7a4_2 : decode cJ0_indexOf_0f7a4 2 = .ok (.iconst 0, 1) := by decide +kernel
theorem dJ0_indexOf_0f7a4_3 : decode cJ0_indexOf_0f7a4 3 = .ok (.invokevirtual 633, 3) := by decide +kernel
theorem dJ0_indexOf_0f7a4_6 : decode cJ0_indexOf_0f7a4 6 = .ok (.ireturn, 1) := by decide +kernel
theorem dJ0_indexOf_7cf53_0 : decode cJ0_indexOf_7cf53 0 = .ok (.aload_n 0, 1) := by decide +kernel
theorem dJ0_indexOf_7cf53_1 : decode cJ0_indexOf_7cf53 1 = .ok (.invokevirtual 492, 3) := by decide +kernel
theorem dJ0_indexOf_7cf53_4 : decode cJ0_indexOf_7cf53 4 = .ok (.ifCond .eq 19, 3) := by decide +kernel
theorem dJ0_indexOf_7cf53_7 : decode cJ0_indexOf_7cf53 7 = .ok (.aload_n 0, 1) := by decide +kernel
theorem dJ0_indexOf_7cf53_8 : decode cJ0_indexOf_7cf53 8 = .ok (.getfield 9, 3) := by decide +kernel
theorem dJ0_indexOf_7cf53_11 : decode cJ0_indexOf_7cf53 11 = .ok (.iload_n 1, 1) := by decide +kernel
theorem dJ0_indexOf_7cf53_12 : decode cJ0_indexOf_7cf53 12 = .ok (.iload_n 2, 1) := by decide +kernel
theorem dJ0_indexOf_7cf53_13 : decode cJ0_indexOf_7cf53 13 = .ok (.aload_n 0, 1) := by decide +kernel
theorem dJ0_indexOf_7cf53_14 : decode cJ0_indexOf_7cf53 14 = .ok (.invokevirtual 505, 3) := by decide +kernel
theorem dJ0_indexOf_7cf53_17 : decode cJ0_indexOf_7cf53 17 = .ok (.invokestatic 637, 3) := by decide +kernel
theorem dJ0_indexOf_7cf53_20 : decode cJ0_indexOf_7cf53 20 = .ok (.goto 16, 3) := by decide +kernel
theorem dJ0_indexOf_7cf53_23 : decode cJ0_indexOf_7cf53 23 = .ok (.aload_n 0, 1) := by decide +kernel
theorem dJ0_indexOf_7cf53_24 : decode cJ0_indexOf_7cf53 24 = .ok (.getfield 9, 3) := by decide +kernel
theorem dJ0_indexOf_7cf53_27 : decode cJ0_indexOf_7cf53 27 = .ok (.iload_n 1, 1) := by decide +kernel
theorem dJ0_indexOf_7cf53_28 : decode cJ0_indexOf_7cf53 28 = .ok (.iload_n 2, 1) := by decide +kernel
theorem dJ0_indexOf_7cf53_29 : decode cJ0_indexOf_7cf53 29 = .ok (.aload_n 0, 1) := by decide +kernel
theorem dJ0_indexOf_7cf53_30 : decode cJ0_indexOf_7cf53 30 = .ok (.invokevirtual 505, 3) := by decide +kernel
theorem dJ0_indexOf_7cf53_33 : decode cJ0_indexOf_7cf53 33 = .ok (.invokestatic 640, 3) := by decide +kernel
theorem dJ0_indexOf_7cf53_36 : decode cJ0_indexOf_7cf53 36 = .ok (.ireturn, 1) := by decide +kernel
theorem dJ0_coder_7d493_0 : decode cJ0_coder_7d493 0 = .ok (.getstatic 38, 3) := by decide +kernel
theorem dJ0_coder_7d493_3 : decode cJ0_coder_7d493 3 = .ok (.ifCond .eq 10, 3) := by decide +kernel
theorem dJ0_coder_7d493_6 : decode cJ0_coder_7d493 6 = .ok (.aload_n 0, 1) := by decide +kernel
theorem dJ0_coder_7d493_7 : decode cJ0_coder_7d493 7 = .ok (.getfield 15, 3) := by decide +kernel
theorem dJ0_coder_7d493_10 : decode cJ0_coder_7d493 10 = .ok (.goto 4, 3) := by decide +kernel
theorem dJ0_coder_7d493_13 : decode cJ0_coder_7d493 13 = .ok (.iconst 1, 1) := by decide +kernel
theorem dJ0_coder_7d493_14 : decode cJ0_coder_7d493 14 = .ok (.ireturn, 1) := by decide +kernel
theorem dJ0_isLatin1_aae02_0 : decode cJ0_isLatin1_aae02 0 = .ok (.getstatic 38, 3) := by decide +kernel
theorem dJ0_isLatin1_aae02_3 : decode cJ0_isLatin1_aae02 3 = .ok (.ifCond .eq 14, 3) := by decide +kernel
theorem dJ0_isLatin1_aae02_6 : decode cJ0_isLatin1_aae02 6 = .ok (.aload_n 0, 1) := by decide +kernel
theorem dJ0_isLatin1_aae02_7 : decode cJ0_isLatin1_aae02 7 = .ok (.getfield 15, 3) := by decide +kernel
theorem dJ0_isLatin1_aae02_10 : decode cJ0_isLatin1_aae02 10 = .ok (.ifCond .ne 7, 3) := by decide +kernel
theorem dJ0_isLatin1_aae02_13 : decode cJ0_isLatin1_aae02 13 = .ok (.iconst 1, 1) := by decide +kernel
theorem dJ0_isLatin1_aae02_14 : decode cJ0_isLatin1_aae02 14 = .ok (.goto 4, 3) := by decide +kernel
theorem dJ0_isLatin1_aae02_17 : decode cJ0_isLatin1_aae02 17 = .ok (.iconst 0, 1) := by decide +kernel
theorem dJ0_isLatin1_aae02_18 : decode cJ0_isLatin1_aae02 18 = .ok (.ireturn, 1) := by decide +kernel
theorem dJ0_checkIndex_df160_0 : decode cJ0_checkIndex_df160 0 = .ok (.iload_n 0, 1) := by decide +kernel
theorem dJ0_checkIndex_df160_1 : decode cJ0_checkIndex_df160 1 = .ok (.iload_n 1, 1) := by decide +kernel
theorem dJ0_checkIndex_df160_2 : decode cJ0_checkIndex_df160 2 = .ok (.getstatic 1053, 3) := by decide +kernel
theorem dJ0_checkIndex_df160_5 : decode cJ0_checkIndex_df160 5 = .ok (.invokestatic 1059, 3) := by decide +kernel
theorem dJ0_checkIndex_df160_8 : decode cJ0_checkIndex_df160 8 = .ok (.pop, 1) := by decide +kernel
theorem dJ0_checkIndex_df160_9 : decode cJ0_checkIndex_df160 9 = .ok (.return_, 1) := by decide +kernel
theorem dJ0_checkBoundsBeginEnd_23922_0 : decode cJ0_checkBoundsBeginEnd_23922 0 = .ok (.iload_n 0, 1) := by decide +kernel
theorem dJ0_checkBoundsBeginEnd_23922_1 : decode cJ0_checkBoundsBeginEnd_23922 1 = .ok (.iload_n 1, 1) := by decide +kernel
theorem dJ0_checkBoundsBeginEnd_23922_2 : decode cJ0_checkBoundsBeginEnd_23922 2 = .ok (.iload_n 2, 1) := by decide +kernel
theorem dJ0_checkBoundsBeginEnd_23922_3 : decode cJ0_checkBoundsBeginEnd_23922 3 = .ok (.getstatic 1053, 3) := by decide +kernel
theorem dJ0_checkBoundsBeginEnd_23922_6 : decode cJ0_checkBoundsBeginEnd_23922 6 = .ok (.invokestatic 1062, 3) := by decide +kernel
theorem dJ0_checkBoundsBeginEnd_23922_9 : decode cJ0_checkBoundsBeginEnd_23922 9 = .ok (.pop, 1) := by decide +kernel
theorem dJ0_checkBoundsBeginEnd_23922_10 : decode cJ0_checkBoundsBeginEnd_23922 10 = .ok (.return_, 1) := by decide +kernel
theorem dJ1_charAt_3b067_0 : decode cJ1_charAt_3b067 0 = .ok (.iload_n 1, 1) := by decide +kernel
theorem dJ1_charAt_3b067_1 : decode cJ1_charAt_3b067 1 = .ok (.aload_n 0, 1) := by decide +kernel
theorem dJ1_charAt_3b067_2 : decode cJ1_charAt_3b067 2 = .ok (.arraylength, 1) := by decide +kernel
theorem dJ1_charAt_3b067_3 : decode cJ1_charAt_3b067 3 = .ok (.invokestatic 9, 3) := by decide +kernel
theorem dJ1_charAt_3b067_6 : decode cJ1_charAt_3b067 6 = .ok (.aload_n 0, 1) := by decide +kernel
theorem dJ1_charAt_3b067_7 : decode cJ1_charAt_3b067 7 = .ok (.iload_n 1, 1) := by decide +kernel
theorem dJ1_charAt_3b067_8 : decode cJ1_charAt_3b067 8 = .ok (.baload, 1) := by decide +kernel
theorem dJ1_charAt_3b067_9 : decode cJ1_charAt_3b067 9 = .ok (.sipush 255, 3) := by decide +kernel
theorem dJ1_charAt_3b067_12 : decode cJ1_charAt_3b067 12 = .ok (.iand, 1) := by decide +kernel
theorem dJ1_charAt_3b067_13 : decode cJ1_charAt_3b067 13 = .ok (.i2c, 1) := by decide +kernel
theorem dJ1_charAt_3b067_14 : decode cJ1_charAt_3b067 14 = .ok (.ireturn, 1) := by decide +kernel
theorem dJ1_canEncode_9a6ad_0 : decode cJ1_canEncode_9a6ad 0 = .ok (.iload_n 0, 1) := by decide +kernel
theorem dJ1_canEncode_9a6ad_1 : decode cJ1_canEncode_9a6ad 1 = .ok (.ifCond .lt 14, 3) := by decide +kernel
theorem dJ1_canEncode_9a6ad_4 : decode cJ1_canEncode_9a6ad 4 = .ok (.iload_n 0, 1) := by decide +kernel
theorem dJ1_canEncode_9a6ad_5 : decode cJ1_canEncode_9a6ad 5 = .ok (.sipush 255, 3) := by decide +kernel
theorem dJ1_canEncode_9a6ad_8 : decode cJ1_canEncode_9a6ad 8 = .ok (.if_icmp .gt 7, 3) := by decide +kernel
theorem dJ1_canEncode_9a6ad_11 : decode cJ1_canEncode_9a6ad 11 = .ok (.iconst 1, 1) := by decide +kernel
theorem dJ1_canEncode_9a6ad_12 : decode cJ1_canEncode_9a6ad 12 = .ok (.goto 4, 3) := by decide +kernel
theorem dJ1_canEncode_9a6ad_15 : decode cJ1_canEncode_9a6ad 15 = .ok (.iconst 0, 1) := by decide +kernel
theorem dJ1_canEncode_9a6ad_16 : decode cJ1_canEncode_9a6ad 16 = .ok (.ireturn, 1) := by decide +kernel
theorem dJ1_indexOf_4cfef_0 : decode cJ1_indexOf_4cfef 0 = .ok (.iload_n 1, 1) := by decide +kernel
theorem dJ1_indexOf_4cfef_1 : decode cJ1_indexOf_4cfef 1 = .ok (.invokestatic 88, 3) := by decide +kernel
theorem dJ1_indexOf_4cfef_4 : decode cJ1_indexOf_4cfef 4 = .ok (.ifCond .ne 5, 3) := by decide +kernel
theorem dJ1_indexOf_4cfef_7 : decode cJ1_indexOf_4cfef 7 = .ok (.iconst (-1), 1) := by decide +kernel
theorem dJ1_indexOf_4cfef_8 : decode cJ1_indexOf_4cfef 8 = .ok (.ireturn, 1) := by decide +kernel
theorem dJ1_indexOf_4cfef_9 : decode cJ1_indexOf_4cfef 9 = .ok (.iload_n 2, 1) := by decide +kernel
theorem dJ1_indexOf_4cfef_10 : decode cJ1_indexOf_4cfef 10 = .ok (.iconst 0, 1) := by decide +kernel
theorem dJ1_indexOf_4cfef_11 : decode cJ1_indexOf_4cfef 11 = .ok (.invokestatic 92, 3) := by decide +kernel
theorem dJ1_indexOf_4cfef_14 : decode cJ1_indexOf_4cfef 14 = .ok (.istore_n 2, 1) := by decide +kernel
theorem dJ1_indexOf_4cfef_15 : decode cJ1_indexOf_4cfef 15 = .ok (.iload_n 3, 1) := by decide +kernel
theorem dJ1_indexOf_4cfef_16 : decode cJ1_indexOf_4cfef 16 = .ok (.aload_n 0, 1) := by decide +kernel
theorem dJ1_indexOf_4cfef_17 : decode cJ1_indexOf_4cfef 17 = .ok (.arraylength, 1) := by decide +kernel
theorem dJ1_indexOf_4cfef_18 : decode cJ1_indexOf_4cfef 18 = .ok (.invokestatic 38, 3) := by decide +kernel
theorem dJ1_indexOf_4cfef_21 : decode cJ1_indexOf_4cfef 21 = .ok (.istore_n 3, 1) := by decide +kernel
theorem dJ1_indexOf_4cfef_22 : decode cJ1_indexOf_4cfef 22 = .ok (.iload_n 2, 1) := by decide +kernel
theorem dJ1_indexOf_4cfef_23 : decode cJ1_indexOf_4cfef 23 = .ok (.iload_n 3, 1) := by decide +kernel
theorem dJ1_indexOf_4cfef_24 : decode cJ1_indexOf_4cfef 24 = .ok (.if_icmp .lt 5, 3) := by decide +kernel
theorem dJ1_indexOf_4cfef_27 : decode cJ1_indexOf_4cfef 27 = .ok (.iconst (-1), 1) := by decide +kernel
theorem dJ1_indexOf_4cfef_28 : decode cJ1_indexOf_4cfef 28 = .ok (.ireturn, 1) := by decide +kernel
theorem dJ1_indexOf_4cfef_29 : decode cJ1_indexOf_4cfef 29 = .ok (.aload_n 0, 1) := by decide +kernel
theorem dJ1_indexOf_4cfef_30 : decode cJ1_indexOf_4cfef 30 = .ok (.iload_n 1, 1) := by decide +kernel
theorem dJ1_indexOf_4cfef_31 : decode cJ1_indexOf_4cfef 31 = .ok (.iload_n 2, 1) := by decide +kernel
theorem dJ1_indexOf_4cfef_32 : decode cJ1_indexOf_4cfef 32 = .ok (.iload_n 3, 1) := by decide +kernel
theorem dJ1_indexOf_4cfef_33 : decode cJ1_indexOf_4cfef 33 = .ok (.invokestatic 95, 3) := by decide +kernel
theorem dJ1_indexOf_4cfef_36 : decode cJ1_indexOf_4cfef 36 = .ok (.ireturn, 1) := by decide +kernel
theorem dJ1_indexOfChar_4cfef_0 : decode cJ1_indexOfChar_4cfef 0 = .ok (.iload_n 1, 1) := by decide +kernel
theorem dJ1_indexOfChar_4cfef_1 : decode cJ1_indexOfChar_4cfef 1 = .ok (.i2b, 1) := by decide +kernel
theorem dJ1_indexOfChar_4cfef_2 : decode cJ1_indexOfChar_4cfef 2 = .ok (.istore 4, 2) := by decide +kernel
theorem dJ1_indexOfChar_4cfef_4 : decode cJ1_indexOfChar_4cfef 4 = .ok (.iload_n 2, 1) := by decide +kernel
theorem dJ1_indexOfChar_4cfef_5 : decode cJ1_indexOfChar_4cfef 5 = .ok (.istore 5, 2) := by decide +kernel
theorem dJ1_indexOfChar_4cfef_7 : decode cJ1_indexOfChar_4cfef 7 = .ok (.iload 5, 2) := by decide +kernel
theorem dJ1_indexOfChar_4cfef_9 : decode cJ1_indexOfChar_4cfef 9 = .ok (.iload_n 3, 1) := by decide +kernel
theorem dJ1_indexOfChar_4cfef_10 : decode cJ1_indexOfChar_4cfef 10 = .ok (.if_icmp .ge 21, 3) := by decide +kernel
theorem dJ1_indexOfChar_4cfef_13 : decode cJ1_indexOfChar_4cfef 13 = .ok (.aload_n 0, 1) := by decide +kernel
theorem dJ1_indexOfChar_4cfef_14 : decode cJ1_indexOfChar_4cfef 14 = .ok (.iload 5, 2) := by decide +kernel
theorem dJ1_indexOfChar_4cfef_16 : decode cJ1_indexOfChar_4cfef 16 = .ok (.baload, 1) := by decide +kernel
theorem dJ1_indexOfChar_4cfef_17 : decode cJ1_indexOfChar_4cfef 17 = .ok (.iload 4, 2) := by decide +kernel
theorem dJ1_indexOfChar_4cfef_19 : decode cJ1_indexOfChar_4cfef 19 = .ok (.if_icmp .ne 6, 3) := by decide +kernel
theorem dJ1_indexOfChar_4cfef_22 : decode cJ1_indexOfChar_4cfef 22 = .ok (.iload 5, 2) := by decide +kernel
theorem dJ1_indexOfChar_4cfef_24 : decode cJ1_indexOfChar_4cfef 24 = .ok (.ireturn, 1) := by decide +kernel
theorem dJ1_indexOfChar_4cfef_25 : decode cJ1_indexOfChar_4cfef 25 = .ok (.iinc 5 1, 3) := by decide +kernel
theorem dJ1_indexOfChar_4cfef_28 : decode cJ1_indexOfChar_4cfef 28 = .ok (.goto (-21), 3) := by decide +kernel
theorem dJ1_indexOfChar_4cfef_31 : decode cJ1_indexOfChar_4cfef 31 = .ok (.iconst (-1), 1) := by decide +kernel
theorem dJ1_indexOfChar_4cfef_32 : decode cJ1_indexOfChar_4cfef 32 = .ok (.ireturn, 1) := by decide +kernel
theorem dJ2_getChar_3b067_0 : decode cJ2_getChar_3b067 0 = .ok (.getstatic 44, 3) := by decide +kernel
theorem dJ2_getChar_3b067_3 : decode cJ2_getChar_3b067 3 = .ok (.ifCond .ne 25, 3) := by decide +kernel
theorem dJ2_getChar_3b067_6 : decode cJ2_getChar_3b067 6 = .ok (.iload_n 1, 1) := by decide +kernel
theorem dJ2_getChar_3b067_7 : decode cJ2_getChar_3b067 7 = .ok (.ifCond .lt 11, 3) := by decide +kernel
theorem dJ2_getChar_3b067_10 : decode cJ2_getChar_3b067 10 = .ok (.iload_n 1, 1) := by decide +kernel
theorem dJ2_getChar_3b067_11 : decode cJ2_getChar_3b067 11 = .ok (.aload_n 0, 1) := by decide +kernel
theorem dJ2_getChar_3b067_12 : decode cJ2_getChar_3b067 12 = .ok (.invokestatic 48, 3) := by decide +kernel
theorem dJ2_getChar_3b067_15 : decode cJ2_getChar_3b067 15 = .ok (.if_icmp .lt 13, 3) := by decide +kernel
theorem dJ2_getChar_3b067_18 : decode cJ2_getChar_3b067 18 = .ok (.new 52, 3) := by decide +kernel
theorem dJ2_getChar_3b067_21 : decode cJ2_getChar_3b067 21 = .ok (.dup, 1) := by decide +kernel
theorem dJ2_getChar_3b067_22 : decode cJ2_getChar_3b067 22 = .ok (.ldc 54, 2) := by decide +kernel
theorem dJ2_getChar_3b067_24 : decode cJ2_getChar_3b067 24 = .ok (.invokespecial 56, 3) := by decide +kernel
theorem dJ2_getChar_3b067_27 : decode cJ2_getChar_3b067 27 = .ok (.athrow, 1) := by decide +kernel
theorem dJ2_getChar_3b067_28 : decode cJ2_getChar_3b067 28 = .ok (.iload_n 1, 1) := by decide +kernel
theorem dJ2_getChar_3b067_29 : decode cJ2_getChar_3b067 29 = .ok (.iconst 1, 1) := by decide +kernel
theorem dJ2_getChar_3b067_30 : decode cJ2_getChar_3b067 30 = .ok (.ishl, 1) := by decide +kernel
theorem dJ2_getChar_3b067_31 : decode cJ2_getChar_3b067 31 = .ok (.istore_n 1, 1) := by decide +kernel
theorem dJ2_getChar_3b067_32 : decode cJ2_getChar_3b067 32 = .ok (.aload_n 0, 1) := by decide +kernel
theorem dJ2_getChar_3b067_33 : decode cJ2_getChar_3b067 33 = .ok (.iload_n 1, 1) := by decide +kernel
theorem dJ2_getChar_3b067_34 : decode cJ2_getChar_3b067 34 = .ok (.iinc 1 1, 3) := by decide +kernel
theorem dJ2_getChar_3b067_37 : decode cJ2_getChar_3b067 37 = .ok (.baload, 1) := by decide +kernel
theorem dJ2_getChar_3b067_38 : decode cJ2_getChar_3b067 38 = .ok (.sipush 255, 3) := by decide +kernel
theorem dJ2_getChar_3b067_41 : decode cJ2_getChar_3b067 41 = .ok (.iand, 1) := by decide +kernel
theorem dJ2_getChar_3b067_42 : decode cJ2_getChar_3b067 42 = .ok (.getstatic 59, 3) := by decide +kernel
theorem dJ2_getChar_3b067_45 : decode cJ2_getChar_3b067 45 = .ok (.ishl, 1) := by decide +kernel
theorem dJ2_getChar_3b067_46 : decode cJ2_getChar_3b067 46 = .ok (.aload_n 0, 1) := by decide +kernel
theorem dJ2_getChar_3b067_47 : decode cJ2_getChar_3b067 47 = .ok (.iload_n 1, 1) := by decide +kernel
theorem dJ2_getChar_3b067_48 : decode cJ2_getChar_3b067 48 = .ok (.baload, 1) := by decide +kernel
theorem dJ2_getChar_3b067_49 : decode cJ2_getChar_3b067 49 = .ok (.sipush 255, 3) := by decide +kernel
theorem dJ2_getChar_3b067_52 : decode cJ2_getChar_3b067 52 = .ok (.iand, 1) := by decide +kernel
theorem dJ2_getChar_3b067_53 : decode cJ2_getChar_3b067 53 = .ok (.getstatic 63, 3) := by decide +kernel
theorem dJ2_getChar_3b067_56 : decode cJ2_getChar_3b067 56 = .ok (.ishl, 1) := by decide +kernel
theorem dJ2_getChar_3b067_57 : decode cJ2_getChar_3b067 57 = .ok (.ior, 1) := by decide +kernel
theorem dJ2_getChar_3b067_58 : decode cJ2_getChar_3b067 58 = .ok (.i2c, 1) := by decide +kernel
theorem dJ2_getChar_3b067_59 : decode cJ2_getChar_3b067 59 = .ok (.ireturn, 1) := by decide +kernel
theorem dJ2_length_9d52b_0 : decode cJ2_length_9d52b 0 = .ok (.aload_n 0, 1) := by decide +kernel
theorem dJ2_length_9d52b_1 : decode cJ2_length_9d52b 1 = .ok (.arraylength, 1) := by decide +kernel
theorem dJ2_length_9d52b_2 : decode cJ2_length_9d52b 2 = .ok (.iconst 1, 1) := by decide +kernel
theorem dJ2_length_9d52b_3 : decode cJ2_length_9d52b 3 = .ok (.ishr, 1) := by decide +kernel
theorem dJ2_length_9d52b_4 : decode cJ2_length_9d52b 4 = .ok (.ireturn, 1) := by decide +kernel
theorem dJ2_indexOf_4cfef_0 : decode cJ2_indexOf_4cfef 0 = .ok (.iload_n 2, 1) := by decide +kernel
theorem dJ2_indexOf_4cfef_1 : decode cJ2_indexOf_4cfef 1 = .ok (.iconst 0, 1) := by decide +kernel
theorem dJ2_indexOf_4cfef_2 : decode cJ2_indexOf_4cfef 2 = .ok (.invokestatic 224, 3) := by decide +kernel
theorem dJ2_indexOf_4cfef_5 : decode cJ2_indexOf_4cfef 5 = .ok (.istore_n 2, 1) := by decide +kernel
theorem dJ2_indexOf_4cfef_6 : decode cJ2_indexOf_4cfef 6 = .ok (.iload_n 3, 1) := by decide +kernel
theorem dJ2_indexOf_4cfef_7 : decode cJ2_indexOf_4cfef 7 = .ok (.aload_n 0, 1) := by decide +kernel
theorem dJ2_indexOf_4cfef_8 : decode cJ2_indexOf_4cfef 8 = .ok (.arraylength, 1) := by decide +kernel
theorem dJ2_indexOf_4cfef_9 : decode cJ2_indexOf_4cfef 9 = .ok (.iconst 1, 1) := by decide +kernel
theorem dJ2_indexOf_4cfef_10 : decode cJ2_indexOf_4cfef 10 = .ok (.ishr, 1) := by decide +kernel
theorem dJ2_indexOf_4cfef_11 : decode cJ2_indexOf_4cfef 11 = .ok (.invokestatic 183, 3) := by decide +kernel
theorem dJ2_indexOf_4cfef_14 : decode cJ2_indexOf_4cfef 14 = .ok (.istore_n 3, 1) := by decide +kernel
theorem dJ2_indexOf_4cfef_15 : decode cJ2_indexOf_4cfef 15 = .ok (.iload_n 2, 1) := by decide +kernel
theorem dJ2_indexOf_4cfef_16 : decode cJ2_indexOf_4cfef 16 = .ok (.iload_n 3, 1) := by decide +kernel
theorem dJ2_indexOf_4cfef_17 : decode cJ2_indexOf_4cfef 17 = .ok (.if_icmp .lt 5, 3) := by decide +kernel
theorem dJ2_indexOf_4cfef_20 : decode cJ2_indexOf_4cfef 20 = .ok (.iconst (-1), 1) := by decide +kernel
theorem dJ2_indexOf_4cfef_21 : decode cJ2_indexOf_4cfef 21 = .ok (.ireturn, 1) := by decide +kernel
theorem dJ2_indexOf_4cfef_22 : decode cJ2_indexOf_4cfef 22 = .ok (.iload_n 1, 1) := by decide +kernel
theorem dJ2_indexOf_4cfef_23 : decode cJ2_indexOf_4cfef 23 = .ok (.ldc 227, 2) := by decide +kernel
theorem dJ2_indexOf_4cfef_25 : decode cJ2_indexOf_4cfef 25 = .ok (.if_icmp .ge 11, 3) := by decide +kernel
theorem dJ2_indexOf_4cfef_28 : decode cJ2_indexOf_4cfef 28 = .ok (.aload_n 0, 1) := by decide +kernel
theorem dJ2_indexOf_4cfef_29 : decode cJ2_indexOf_4cfef 29 = .ok (.iload_n 1, 1) := by decide +kernel
theorem dJ2_indexOf_4cfef_30 : decode cJ2_indexOf_4cfef 30 = .ok (.iload_n 2, 1) := by decide +kernel
theorem dJ2_indexOf_4cfef_31 : decode cJ2_indexOf_4cfef 31 = .ok (.iload_n 3, 1) := by decide +kernel
theorem dJ2_indexOf_4cfef_32 : decode cJ2_indexOf_4cfef 32 = .ok (.invokestatic 228, 3) := by decide +kernel
theorem dJ2_indexOf_4cfef_35 : decode cJ2_indexOf_4cfef 35 = .ok (.ireturn, 1) := by decide +kernel
theorem dJ2_indexOf_4cfef_36 : decode cJ2_indexOf_4cfef 36 = .ok (.aload_n 0, 1) := by decide +kernel
theorem dJ2_indexOf_4cfef_37 : decode cJ2_indexOf_4cfef 37 = .ok (.iload_n 1, 1) := by decide +kernel
theorem dJ2_indexOf_4cfef_38 : decode cJ2_indexOf_4cfef 38 = .ok (.iload_n 2, 1) := by decide +kernel
theorem dJ2_indexOf_4cfef_39 : decode cJ2_indexOf_4cfef 39 = .ok (.iload_n 3, 1) := by decide +kernel
theorem dJ2_indexOf_4cfef_40 : decode cJ2_indexOf_4cfef 40 = .ok (.invokestatic 232, 3) := by decide +kernel
theorem dJ2_indexOf_4cfef_43 : decode cJ2_indexOf_4cfef 43 = .ok (.ireturn, 1) := by decide +kernel
theorem dJ2_indexOfChar_4cfef_0 : decode cJ2_indexOfChar_4cfef 0 = .ok (.iload_n 2, 1) := by decide +kernel
theorem dJ2_indexOfChar_4cfef_1 : decode cJ2_indexOfChar_4cfef 1 = .ok (.iload_n 3, 1) := by decide +kernel
theorem dJ2_indexOfChar_4cfef_2 : decode cJ2_indexOfChar_4cfef 2 = .ok (.aload_n 0, 1) := by decide +kernel
theorem dJ2_indexOfChar_4cfef_3 : decode cJ2_indexOfChar_4cfef 3 = .ok (.invokestatic 96, 3) := by decide +kernel
theorem dJ2_indexOfChar_4cfef_6 : decode cJ2_indexOfChar_4cfef 6 = .ok (.aload_n 0, 1) := by decide +kernel
theorem dJ2_indexOfChar_4cfef_7 : decode cJ2_indexOfChar_4cfef 7 = .ok (.iload_n 1, 1) := by decide +kernel
theorem dJ2_indexOfChar_4cfef_8 : decode cJ2_indexOfChar_4cfef 8 = .ok (.iload_n 2, 1) := by decide +kernel
theorem dJ2_indexOfChar_4cfef_9 : decode cJ2_indexOfChar_4cfef 9 = .ok (.iload_n 3, 1) := by decide +kernel
theorem dJ2_indexOfChar_4cfef_10 : decode cJ2_indexOfChar_4cfef 10 = .ok (.invokestatic 244, 3) := by decide +kernel
theorem dJ2_indexOfChar_4cfef_13 : decode cJ2_indexOfChar_4cfef 13 = .ok (.ireturn, 1) := by decide +kernel
theorem dJ2_indexOfCharUnsafe_4cfef_0 : decode cJ2_indexOfCharUnsafe_4cfef 0 = .ok (.iload_n 2, 1) := by decide +kernel
theorem dJ2_indexOfCharUnsafe_4cfef_1 : decode cJ2_indexOfCharUnsafe_4cfef 1 = .ok (.istore 4, 2) := by decide +kernel
theorem dJ2_indexOfCharUnsafe_4cfef_3 : decode cJ2_indexOfCharUnsafe_4cfef 3 = .ok (.iload 4, 2) := by decide +kernel
theorem dJ2_indexOfCharUnsafe_4cfef_5 : decode cJ2_indexOfCharUnsafe_4cfef 5 = .ok (.iload_n 3, 1) := by decide +kernel
theorem dJ2_indexOfCharUnsafe_4cfef_6 : decode cJ2_indexOfCharUnsafe_4cfef 6 = .ok (.if_icmp .ge 22, 3) := by decide +kernel
theorem dJ2_indexOfCharUnsafe_4cfef_9 : decode cJ2_indexOfCharUnsafe_4cfef 9 = .ok (.aload_n 0, 1) := by decide +kernel
theorem dJ2_indexOfCharUnsafe_4cfef_10 : decode cJ2_indexOfCharUnsafe_4cfef 10 = .ok (.iload 4, 2) := by decide +kernel
theorem dJ2_indexOfCharUnsafe_4cfef_12 : decode cJ2_indexOfCharUnsafe_4cfef 12 = .ok (.invokestatic 71, 3) := by decide +kernel
theorem dJ2_indexOfCharUnsafe_4cfef_15 : decode cJ2_indexOfCharUnsafe_4cfef 15 = .ok (.iload_n 1, 1) := by decide +kernel
theorem dJ2_indexOfCharUnsafe_4cfef_16 : decode cJ2_indexOfCharUnsafe_4cfef 16 = .ok (.if_icmp .ne 6, 3) := by decide +kernel
theorem dJ2_indexOfCharUnsafe_4cfef_19 : decode cJ2_indexOfCharUnsafe_4cfef 19 = .ok (.iload 4, 2) := by decide +kernel
theorem dJ2_indexOfCharUnsafe_4cfef_21 : decode cJ2_indexOfCharUnsafe_4cfef 21 = .ok (.ireturn, 1) := by decide +kernel
theorem dJ2_indexOfCharUnsafe_4cfef_22 : decode cJ2_indexOfCharUnsafe_4cfef 22 = .ok (.iinc 4 1, 3) := by decide +kernel
theorem dJ2_indexOfCharUnsafe_4cfef_25 : decode cJ2_indexOfCharUnsafe_4cfef 25 = .ok (.goto (-22), 3) := by decide +kernel
theorem dJ2_indexOfCharUnsafe_4cfef_28 : decode cJ2_indexOfCharUnsafe_4cfef 28 = .ok (.iconst (-1), 1) := by decide +kernel
theorem dJ2_indexOfCharUnsafe_4cfef_29 : decode cJ2_indexOfCharUnsafe_4cfef 29 = .ok (.ireturn, 1) := by decide +kernel
theorem dJ2_indexOfSupplementary_4cfef_0 : decode cJ2_indexOfSupplementary_4cfef 0 = .ok (.iload_n 1, 1) := by decide +kernel
theorem dJ2_indexOfSupplementary_4cfef_1 : decode cJ2_indexOfSupplementary_4cfef 1 = .ok (.invokestatic 164, 3) := by decide +kernel
theorem dJ2_indexOfSupplementary_4cfef_4 : decode cJ2_indexOfSupplementary_4cfef 4 = .ok (.ifCond .eq 65, 3) := by decide +kernel
theorem dJ2_indexOfSupplementary_4cfef_7 : decode cJ2_indexOfSupplementary_4cfef 7 = .ok (.iload_n 1, 1) := by decide +kernel
theorem dJ2_indexOfSupplementary_4cfef_8 : decode cJ2_indexOfSupplementary_4cfef 8 = .ok (.invokestatic 157, 3) := by decide +kernel
theorem dJ2_indexOfSupplementary_4cfef_11 : decode cJ2_indexOfSupplementary_4cfef 11 = .ok (.istore 4, 2) := by decide +kernel
theorem dJ2_indexOfSupplementary_4cfef_13 : decode cJ2_indexOfSupplementary_4cfef 13 = .ok (.iload_n 1, 1) := by decide +kernel
theorem dJ2_indexOfSupplementary_4cfef_14 : decode cJ2_indexOfSupplementary_4cfef 14 = .ok (.invokestatic 161, 3) := by decide +kernel
theorem dJ2_indexOfSupplementary_4cfef_17 : decode cJ2_indexOfSupplementary_4cfef 17 = .ok (.istore 5, 2) := by decide +kernel
theorem dJ2_indexOfSupplementary_4cfef_19 : decode cJ2_indexOfSupplementary_4cfef 19 = .ok (.iload_n 2, 1) := by decide +kernel
theorem dJ2_indexOfSupplementary_4cfef_20 : decode cJ2_indexOfSupplementary_4cfef 20 = .ok (.iload_n 3, 1) := by decide +kernel
theorem dJ2_indexOfSupplementary_4cfef_21 : decode cJ2_indexOfSupplementary_4cfef 21 = .ok (.aload_n 0, 1) := by decide +kernel
theorem dJ2_indexOfSupplementary_4cfef_22 : decode cJ2_indexOfSupplementary_4cfef 22 = .ok (.invokestatic 96, 3) := by decide +kernel
theorem dJ2_indexOfSupplementary_4cfef_25 : decode cJ2_indexOfSupplementary_4cfef 25 = .ok (.iload_n 2, 1) := by decide +kernel
theorem dJ2_indexOfSupplementary_4cfef_26 : decode cJ2_indexOfSupplementary_4cfef 26 = .ok (.istore 6, 2) := by decide +kernel
theorem dJ2_indexOfSupplementary_4cfef_28 : decode cJ2_indexOfSupplementary_4cfef 28 = .ok (.iload 6, 2) := by decide +kernel
theorem dJ2_indexOfSupplementary_4cfef_30 : decode cJ2_indexOfSupplementary_4cfef 30 = .ok (.iload_n 3, 1) := by decide +kernel
theorem dJ2_indexOfSupplementary_4cfef_31 : decode cJ2_indexOfSupplementary_4cfef 31 = .ok (.iconst 1, 1) := by decide +kernel
theorem dJ2_indexOfSupplementary_4cfef_32 : decode cJ2_indexOfSupplementary_4cfef 32 = .ok (.isub, 1) := by decide +kernel
theorem dJ2_indexOfSupplementary_4cfef_33 : decode cJ2_indexOfSupplementary_4cfef 33 = .ok (.if_icmp .ge 36, 3) := by decide +kernel
theorem dJ2_indexOfSupplementary_4cfef_36 : decode cJ2_indexOfSupplementary_4cfef 36 = .ok (.aload_n 0, 1) := by decide +kernel
theorem dJ2_indexOfSupplementary_4cfef_37 : decode cJ2_indexOfSupplementary_4cfef 37 = .ok (.iload 6, 2) := by decide +kernel
theorem dJ2_indexOfSupplementary_4cfef_39 : decode cJ2_indexOfSupplementary_4cfef 39 = .ok (.invokestatic 71, 3) := by decide +kernel
theorem dJ2_indexOfSupplementary_4cfef_42 : decode cJ2_indexOfSupplementary_4cfef 42 = .ok (.iload 4, 2) := by decide +kernel
theorem dJ2_indexOfSupplementary_4cfef_44 : decode cJ2_indexOfSupplementary_4cfef 44 = .ok (.if_icmp .ne 19, 3) := by decide +kernel
theorem dJ2_indexOfSupplementary_4cfef_47 : decode cJ2_indexOfSupplementary_4cfef 47 = .ok (.aload_n 0, 1) := by decide +kernel
theorem dJ2_indexOfSupplementary_4cfef_48 : decode cJ2_indexOfSupplementary_4cfef 48 = .ok (.iload 6, 2) := by decide +kernel
theorem dJ2_indexOfSupplementary_4cfef_50 : decode cJ2_indexOfSupplementary_4cfef 50 = .ok (.iconst 1, 1) := by decide +kernel
theorem dJ2_indexOfSupplementary_4cfef_51 : decode cJ2_indexOfSupplementary_4cfef 51 = .ok (.iadd, 1) := by decide +kernel
theorem dJ2_indexOfSupplementary_4cfef_52 : decode cJ2_indexOfSupplementary_4cfef 52 = .ok (.invokestatic 71, 3) := by decide +kernel
theorem dJ2_indexOfSupplementary_4cfef_55 : decode cJ2_indexOfSupplementary_4cfef 55 = .ok (.iload 5, 2) := by decide +kernel
theorem dJ2_indexOfSupplementary_4cfef_57 : decode cJ2_indexOfSupplementary_4cfef 57 = .ok (.if_icmp .ne 6, 3) := by decide +kernel
theorem dJ2_indexOfSupplementary_4cfef_60 : decode cJ2_indexOfSupplementary_4cfef 60 = .ok (.iload 6, 2) := by decide +kernel
theorem dJ2_indexOfSupplementary_4cfef_62 : decode cJ2_indexOfSupplementary_4cfef 62 = .ok (.ireturn, 1) := by decide +kernel
theorem dJ2_indexOfSupplementary_4cfef_63 : decode cJ2_indexOfSupplementary_4cfef 63 = .ok (.iinc 6 1, 3) := by decide +kernel
theorem dJ2_indexOfSupplementary_4cfef_66 : decode cJ2_indexOfSupplementary_4cfef 66 = .ok (.goto (-38), 3) := by decide +kernel
theorem dJ2_indexOfSupplementary_4cfef_69 : decode cJ2_indexOfSupplementary_4cfef 69 = .ok (.iconst (-1), 1) := by decide +kernel
theorem dJ2_indexOfSupplementary_4cfef_70 : decode cJ2_indexOfSupplementary_4cfef 70 = .ok (.ireturn, 1) := by decide +kernel
theorem dJ2_charAt_3b067_0 : decode cJ2_charAt_3b067 0 = .ok (.iload_n 1, 1) := by decide +kernel
theorem dJ2_charAt_3b067_1 : decode cJ2_charAt_3b067 1 = .ok (.aload_n 0, 1) := by decide +kernel
theorem dJ2_charAt_3b067_2 : decode cJ2_charAt_3b067 2 = .ok (.invokestatic 67, 3) := by decide +kernel
theorem dJ2_charAt_3b067_5 : decode cJ2_charAt_3b067 5 = .ok (.aload_n 0, 1) := by decide +kernel
theorem dJ2_charAt_3b067_6 : decode cJ2_charAt_3b067 6 = .ok (.iload_n 1, 1) := by decide +kernel
theorem dJ2_charAt_3b067_7 : decode cJ2_charAt_3b067 7 = .ok (.invokestatic 71, 3) := by decide +kernel
theorem dJ2_charAt_3b067_10 : decode cJ2_charAt_3b067 10 = .ok (.ireturn, 1) := by decide +kernel
theorem dJ2_checkIndex_2214a_0 : decode cJ2_checkIndex_2214a 0 = .ok (.iload_n 0, 1) := by decide +kernel
theorem dJ2_checkIndex_2214a_1 : decode cJ2_checkIndex_2214a 1 = .ok (.aload_n 1, 1) := by decide +kernel
theorem dJ2_checkIndex_2214a_2 : decode cJ2_checkIndex_2214a 2 = .ok (.invokestatic 48, 3) := by decide +kernel
theorem dJ2_checkIndex_2214a_5 : decode cJ2_checkIndex_2214a 5 = .ok (.invokestatic 414, 3) := by decide +kernel
theorem dJ2_checkIndex_2214a_8 : decode cJ2_checkIndex_2214a 8 = .ok (.return_, 1) := by decide +kernel
theorem dJ2_checkBoundsBeginEnd_d044e_0 : decode cJ2_checkBoundsBeginEnd_d044e 0 = .ok (.iload_n 0, 1) := by decide +kernel
theorem dJ2_checkBoundsBeginEnd_d044e_1 : decode cJ2_checkBoundsBeginEnd_d044e 1 = .ok (.iload_n 1, 1) := by decide +kernel
theorem dJ2_checkBoundsBeginEnd_d044e_2 : decode cJ2_checkBoundsBeginEnd_d044e 2 = .ok (.aload_n 2, 1) := by decide +kernel
theorem dJ2_checkBoundsBeginEnd_d044e_3 : decode cJ2_checkBoundsBeginEnd_d044e 3 = .ok (.invokestatic 48, 3) := by decide +kernel
theorem dJ2_checkBoundsBeginEnd_d044e_6 : decode cJ2_checkBoundsBeginEnd_d044e 6 = .ok (.invokestatic 241, 3) := by decide +kernel
theorem dJ2_checkBoundsBeginEnd_d044e_9 : decode cJ2_checkBoundsBeginEnd_d044e 9 = .ok (.return_, 1) := by decide +kernel
theorem dJ3_checkIndex_8e157_0 : decode cJ3_checkIndex_8e157 0 = .ok (.iload_n 0, 1) := by decide +kernel
theorem dJ3_checkIndex_8e157_1 : decode cJ3_checkIndex_8e157 1 = .ok (.ifCond .lt 8, 3) := by decide +kernel
theorem dJ3_checkIndex_8e157_4 : decode cJ3_checkIndex_8e157 4 = .ok (.iload_n 0, 1) := by decide +kernel
theorem dJ3_checkIndex_8e157_5 : decode cJ3_checkIndex_8e157 5 = .ok (.iload_n 1, 1) := by decide +kernel
theorem dJ3_checkIndex_8e157_6 : decode cJ3_checkIndex_8e157 6 = .ok (.if_icmp .lt 10, 3) := by decide +kernel
theorem dJ3_checkIndex_8e157_9 : decode cJ3_checkIndex_8e157 9 = .ok (.aload_n 2, 1) := by decide +kernel
theorem dJ3_checkIndex_8e157_10 : decode cJ3_checkIndex_8e157 10 = .ok (.iload_n 0, 1) := by decide +kernel
theorem dJ3_checkIndex_8e157_11 : decode cJ3_checkIndex_8e157 11 = .ok (.iload_n 1, 1) := by decide +kernel
theorem dJ3_checkIndex_8e157_12 : decode cJ3_checkIndex_8e157 12 = .ok (.invokestatic 95, 3) := by decide +kernel
theorem dJ3_checkIndex_8e157_15 : decode cJ3_checkIndex_8e157 15 = .ok (.athrow, 1) := by decide +kernel
theorem dJ3_checkIndex_8e157_16 : decode cJ3_checkIndex_8e157 16 = .ok (.iload_n 0, 1) := by decide +kernel
theorem dJ3_checkIndex_8e157_17 : decode cJ3_checkIndex_8e157 17 = .ok (.ireturn, 1) := by decide +kernel
theorem dJ3_checkFromToIndex_8c36e_0 : decode cJ3_checkFromToIndex_8c36e 0 = .ok (.iload_n 0, 1) := by decide +kernel
theorem dJ3_checkFromToIndex_8c36e_1 : decode cJ3_checkFromToIndex_8c36e 1 = .ok (.ifCond .lt 13, 3) := by decide +kernel
theorem dJ3_checkFromToIndex_8c36e_4 : decode cJ3_checkFromToIndex_8c36e 4 = .ok (.iload_n 0, 1) := by decide +kernel
theorem dJ3_checkFromToIndex_8c36e_5 : decode cJ3_checkFromToIndex_8c36e 5 = .ok (.iload_n 1, 1) := by decide +kernel
theorem dJ3_checkFromToIndex_8c36e_6 : decode cJ3_checkFromToIndex_8c36e 6 = .ok (.if_icmp .gt 8, 3) := by decide +kernel
theorem dJ3_checkFromToIndex_8c36e_9 : decode cJ3_checkFromToIndex_8c36e 9 = .ok (.iload_n 1, 1) := by decide +kernel
theorem dJ3_checkFromToIndex_8c36e_10 : decode cJ3_checkFromToIndex_8c36e 10 = .ok (.iload_n 2, 1) := by decide +kernel
theorem dJ3_checkFromToIndex_8c36e_11 : decode cJ3_checkFromToIndex_8c36e 11 = .ok (.if_icmp .le 11, 3) := by decide +kernel
theorem dJ3_checkFromToIndex_8c36e_14 : decode cJ3_checkFromToIndex_8c36e 14 = .ok (.aload_n 3, 1) := by decide +kernel
theorem dJ3_checkFromToIndex_8c36e_15 : decode cJ3_checkFromToIndex_8c36e 15 = .ok (.iload_n 0, 1) := by decide +kernel
theorem dJ3_checkFromToIndex_8c36e_16 : decode cJ3_checkFromToIndex_8c36e 16 = .ok (.iload_n 1, 1) := by decide +kernel
theorem dJ3_checkFromToIndex_8c36e_17 : decode cJ3_checkFromToIndex_8c36e 17 = .ok (.iload_n 2, 1) := by decide +kernel
theorem dJ3_checkFromToIndex_8c36e_18 : decode cJ3_checkFromToIndex_8c36e 18 = .ok (.invokestatic 99, 3) := by decide +kernel
theorem dJ3_checkFromToIndex_8c36e_21 : decode cJ3_checkFromToIndex_8c36e 21 = .ok (.athrow, 1) := by decide +kernel
theorem dJ3_checkFromToIndex_8c36e_22 : decode cJ3_checkFromToIndex_8c36e 22 = .ok (.iload_n 0, 1) := by decide +kernel
theorem dJ3_checkFromToIndex_8c36e_23 : decode cJ3_checkFromToIndex_8c36e 23 = .ok (.ireturn, 1) := by decide +kernel
