theorem dX12_init_0 : decode cX12_init 0 = .ok (.aload_n 0, 1) := by decide +kernel
theorem dX12_init_1 : decode cX12_init 1 = .ok (.invokespecial 1, 3) := by decide +kernel
theorem dX12_init_4 : decode cX12_init 4 = .ok (.aload_n 0, 1) := by decide +kernel
theorem dX12_init_5 : decode cX12_init 5 = .ok (.sipush 1452, 3) := by decide +kernel
theorem dX12_init_8 : decode cX12_init 8 = .ok (.newarray .int, 2) := by decide +kernel
theorem dX12_init_10 : decode cX12_init 10 = .ok (.putfield 7, 3) := by decide +kernel
theorem dX12_init_13 : decode cX12_init 13 = .ok (.aload_n 0, 1) := by decide +kernel
theorem dX12_init_14 : decode cX12_init 14 = .ok (.sipush 13068, 3) := by decide +kernel
theorem dX12_init_17 : decode cX12_init 17 = .ok (.newarray .int, 2) := by decide +kernel
theorem dX12_init_19 : decode cX12_init 19 = .ok (.putfield 13, 3) := by decide +kernel
theorem dX12_init_22 : decode cX12_init 22 = .ok (.aload_n 0, 1) := by decide +kernel
theorem dX12_init_23 : decode cX12_init 23 = .ok (.sipush 320, 3) := by decide +kernel
theorem dX12_init_26 : decode cX12_init 26 = .ok (.newarray .byte, 2) := by decide +kernel
theorem dX12_init_28 : decode cX12_init 28 = .ok (.putfield 16, 3) := by decide +kernel
theorem dX12_init_31 : decode cX12_init 31 = .ok (.aload_n 0, 1) := by decide +kernel
theorem dX12_init_32 : decode cX12_init 32 = .ok (.bipush 80, 2) := by decide +kernel
theorem dX12_init_34 : decode cX12_init 34 = .ok (.newarray .int, 2) := by decide +kernel
theorem dX12_init_36 : decode cX12_init 36 = .ok (.putfield 20, 3) := by decide +kernel
theorem dX12_init_39 : decode cX12_init 39 = .ok (.aload_n 0, 1) := by decide +kernel
theorem dX12_init_40 : decode cX12_init 40 = .ok (.sipush 1200, 3) := by decide +kernel
theorem dX12_init_43 : decode cX12_init 43 = .ok (.newarray .boolean, 2) := by decide +kernel
theorem dX12_init_45 : decode cX12_init 45 = .ok (.putfield 23, 3) := by decide +kernel
theorem dX12_init_48 : decode cX12_init 48 = .ok (.aload_n 0, 1) := by decide +kernel
theorem dX12_init_49 : decode cX12_init 49 = .ok (.bipush 20, 2) := by decide +kernel
theorem dX12_init_51 : decode cX12_init 51 = .ok (.newarray .boolean, 2) := by decide +kernel
theorem dX12_init_53 : decode cX12_init 53 = .ok (.putfield 27, 3) := by decide +kernel
theorem dX12_init_56 : decode cX12_init 56 = .ok (.aload_n 0, 1) := by decide +kernel
theorem dX12_init_57 : decode cX12_init 57 = .ok (.bipush 20, 2) := by decide +kernel
theorem dX12_init_59 : decode cX12_init 59 = .ok (.newarray .int, 2) := by decide +kernel
theorem dX12_init_61 : decode cX12_init 61 = .ok (.putfield 30, 3) := by decide +kernel
theorem dX12_init_64 : decode cX12_init 64 = .ok (.aload_n 0, 1) := by decide +kernel
theorem dX12_init_65 : decode cX12_init 65 = .ok (.bipush 6, 2) := by decide +kernel
theorem dX12_init_67 : decode cX12_init 67 = .ok (.newarray .int, 2) := by decide +kernel
theorem dX12_init_69 : decode cX12_init 69 = .ok (.putfield 33, 3) := by decide +kernel
theorem dX12_init_72 : decode cX12_init 72 = .ok (.aload_n 0, 1) := by decide +kernel
theorem dX12_init_73 : decode cX12_init 73 = .ok (.bipush 6, 2) := by decide +kernel
theorem dX12_init_75 : decode cX12_init 75 = .ok (.newarray .int, 2) := by decide +kernel
theorem dX12_init_77 : decode cX12_init 77 = .ok (.putfield 36, 3) := by decide +kernel
theorem dX12_init_80 : decode cX12_init 80 = .ok (.aload_n 0, 1) := by decide +kernel
theorem dX12_init_81 : decode cX12_init 81 = .ok (.bipush 6, 2) := by decide +kernel
theorem dX12_init_83 : decode cX12_init 83 = .ok (.newarray .int, 2) := by decide +kernel
theorem dX12_init_85 : decode cX12_init 85 = .ok (.putfield 39, 3) := by decide +kernel
theorem dX12_init_88 : decode cX12_init 88 = .ok (.aload_n 0, 1) := by decide +kernel
theorem dX12_init_89 : decode cX12_init 89 = .ok (.bipush 6, 2) := by decide +kernel
theorem dX12_init_91 : decode cX12_init 91 = .ok (.newarray .int, 2) := by decide +kernel
theorem dX12_init_93 : decode cX12_init 93 = .ok (.putfield 42, 3) := by decide +kernel
theorem dX12_init_96 : decode cX12_init 96 = .ok (.iconst 0, 1) := by decide +kernel
theorem dX12_init_97 : decode cX12_init 97 = .ok (.istore_n 1, 1) := by decide +kernel
theorem dX12_init_98 : decode cX12_init 98 = .ok (.iload_n 1, 1) := by decide +kernel
theorem dX12_init_99 : decode cX12_init 99 = .ok (.bipush 12, 2) := by decide +kernel
theorem dX12_init_101 : decode cX12_init 101 = .ok (.if_icmp .ge 21, 3) := by decide +kernel
theorem dX12_init_104 : decode cX12_init 104 = .ok (.aload_n 0, 1) := by decide +kernel
theorem dX12_init_105 : decode cX12_init 105 = .ok (.getfield 7, 3) := by decide +kernel
theorem dX12_init_108 : decode cX12_init 108 = .ok (.sipush 160, 3) := by decide +kernel
theorem dX12_init_111 : decode cX12_init 111 = .ok (.iload_n 1, 1) := by decide +kernel
theorem dX12_init_112 : decode cX12_init 112 = .ok (.iadd, 1) := by decide +kernel
theorem dX12_init_113 : decode cX12_init 113 = .ok (.bipush 12, 2) := by decide +kernel
theorem dX12_init_115 : decode cX12_init 115 = .ok (.iastore, 1) := by decide +kernel
theorem dX12_init_116 : decode cX12_init 116 = .ok (.iinc 1 1, 3) := by decide +kernel
theorem dX12_init_119 : decode cX12_init 119 = .ok (.goto (-21), 3) := by decide +kernel
theorem dX12_init_122 : decode cX12_init 122 = .ok (.return_, 1) := by decide +kernel
theorem dX12_in_0 : decode cX12_in 0 = .ok (.iload_n 0, 1) := by decide +kernel
theorem dX12_in_1 : decode cX12_in 1 = .ok (.iload_n 1, 1) := by decide +kernel
theorem dX12_in_2 : decode cX12_in 2 = .ok (.if_icmp .lt 12, 3) := by decide +kernel
theorem dX12_in_5 : decode cX12_in 5 = .ok (.iload_n 0, 1) := by decide +kernel
theorem dX12_in_6 : decode cX12_in 6 = .ok (.iload_n 2, 1) := by decide +kernel
theorem dX12_in_7 : decode cX12_in 7 = .ok (.if_icmp .gt 7, 3) := by decide +kernel
theorem dX12_in_10 : decode cX12_in 10 = .ok (.iconst 1, 1) := by decide +kernel
theorem dX12_in_11 : decode cX12_in 11 = .ok (.goto 4, 3) := by decide +kernel
theorem dX12_in_14 : decode cX12_in 14 = .ok (.iconst 0, 1) := by decide +kernel
theorem dX12_in_15 : decode cX12_in 15 = .ok (.ireturn, 1) := by decide +kernel
theorem dX12_more_0 : decode cX12_more 0 = .ok (.iload_n 0, 1) := by decide +kernel
theorem dX12_more_1 : decode cX12_more 1 = .ok (.iload_n 1, 1) := by decide +kernel
theorem dX12_more_2 : decode cX12_more 2 = .ok (.if_icmp .le 7, 3) := by decide +kernel
theorem dX12_more_5 : decode cX12_more 5 = .ok (.iload_n 0, 1) := by decide +kernel
theorem dX12_more_6 : decode cX12_more 6 = .ok (.goto 4, 3) := by decide +kernel
theorem dX12_more_9 : decode cX12_more 9 = .ok (.iload_n 1, 1) := by decide +kernel
theorem dX12_more_10 : decode cX12_more 10 = .ok (.ireturn, 1) := by decide +kernel
theorem dX12_lays_0 : decode cX12_lays 0 = .ok (.iconst 0, 1) := by decide +kernel
theorem dX12_lays_1 : decode cX12_lays 1 = .ok (.istore_n 2, 1) := by decide +kernel
theorem dX12_lays_2 : decode cX12_lays 2 = .ok (.iload_n 2, 1) := by decide +kernel
theorem dX12_lays_3 : decode cX12_lays 3 = .ok (.sipush 1452, 3) := by decide +kernel
theorem dX12_lays_6 : decode cX12_lays 6 = .ok (.if_icmp .ge 27, 3) := by decide +kernel
theorem dX12_lays_9 : decode cX12_lays 9 = .ok (.aload_n 0, 1) := by decide +kernel
theorem dX12_lays_10 : decode cX12_lays 10 = .ok (.getfield 13, 3) := by decide +kernel
theorem dX12_lays_13 : decode cX12_lays 13 = .ok (.sipush 1452, 3) := by decide +kernel
theorem dX12_lays_16 : decode cX12_lays 16 = .ok (.iload_n 1, 1) := by decide +kernel
theorem dX12_lays_17 : decode cX12_lays 17 = .ok (.imul, 1) := by decide +kernel
theorem dX12_lays_18 : decode cX12_lays 18 = .ok (.iload_n 2, 1) := by decide +kernel
theorem dX12_lays_19 : decode cX12_lays 19 = .ok (.iadd, 1) := by decide +kernel
theorem dX12_lays_20 : decode cX12_lays 20 = .ok (.aload_n 0, 1) := by decide +kernel
theorem dX12_lays_21 : decode cX12_lays 21 = .ok (.getfield 7, 3) := by decide +kernel
theorem dX12_lays_24 : decode cX12_lays 24 = .ok (.iload_n 2, 1) := by decide +kernel
theorem dX12_lays_25 : decode cX12_lays 25 = .ok (.iaload, 1) := by decide +kernel
theorem dX12_lays_26 : decode cX12_lays 26 = .ok (.iastore, 1) := by decide +kernel
theorem dX12_lays_27 : decode cX12_lays 27 = .ok (.iinc 2 1, 3) := by decide +kernel
theorem dX12_lays_30 : decode cX12_lays 30 = .ok (.goto (-28), 3) := by decide +kernel
theorem dX12_lays_33 : decode cX12_lays 33 = .ok (.return_, 1) := by decide +kernel
theorem dX12_takes_0 : decode cX12_takes 0 = .ok (.iconst 0, 1) := by decide +kernel
theorem dX12_takes_1 : decode cX12_takes 1 = .ok (.istore_n 2, 1) := by decide +kernel
theorem dX12_takes_2 : decode cX12_takes 2 = .ok (.iload_n 2, 1) := by decide +kernel
theorem dX12_takes_3 : decode cX12_takes 3 = .ok (.sipush 1452, 3) := by decide +kernel
theorem dX12_takes_6 : decode cX12_takes 6 = .ok (.if_icmp .ge 27, 3) := by decide +kernel
theorem dX12_takes_9 : decode cX12_takes 9 = .ok (.aload_n 0, 1) := by decide +kernel
theorem dX12_takes_10 : decode cX12_takes 10 = .ok (.getfield 7, 3) := by decide +kernel
theorem dX12_takes_13 : decode cX12_takes 13 = .ok (.iload_n 2, 1) := by decide +kernel
theorem dX12_takes_14 : decode cX12_takes 14 = .ok (.aload_n 0, 1) := by decide +kernel
theorem dX12_takes_15 : decode cX12_takes 15 = .ok (.getfield 13, 3) := by decide +kernel
theorem dX12_takes_18 : decode cX12_takes 18 = .ok (.sipush 1452, 3) := by decide +kernel
theorem dX12_takes_21 : decode cX12_takes 21 = .ok (.iload_n 1, 1) := by decide +kernel
theorem dX12_takes_22 : decode cX12_takes 22 = .ok (.imul, 1) := by decide +kernel
theorem dX12_takes_23 : decode cX12_takes 23 = .ok (.iload_n 2, 1) := by decide +kernel
theorem dX12_takes_24 : decode cX12_takes 24 = .ok (.iadd, 1) := by decide +kernel
theorem dX12_takes_25 : decode cX12_takes 25 = .ok (.iaload, 1) := by decide +kernel
theorem dX12_takes_26 : decode cX12_takes 26 = .ok (.iastore, 1) := by decide +kernel
theorem dX12_takes_27 : decode cX12_takes 27 = .ok (.iinc 2 1, 3) := by decide +kernel
theorem dX12_takes_30 : decode cX12_takes 30 = .ok (.goto (-28), 3) := by decide +kernel
theorem dX12_takes_33 : decode cX12_takes 33 = .ok (.return_, 1) := by decide +kernel
theorem dX12_of_0 : decode cX12_of 0 = .ok (.aload_n 0, 1) := by decide +kernel
theorem dX12_of_1 : decode cX12_of 1 = .ok (.getfield 7, 3) := by decide +kernel
theorem dX12_of_4 : decode cX12_of 4 = .ok (.bipush 8, 2) := by decide +kernel
theorem dX12_of_6 : decode cX12_of 6 = .ok (.iload_n 1, 1) := by decide +kernel
theorem dX12_of_7 : decode cX12_of 7 = .ok (.imul, 1) := by decide +kernel
theorem dX12_of_8 : decode cX12_of 8 = .ok (.iload_n 2, 1) := by decide +kernel
theorem dX12_of_9 : decode cX12_of 9 = .ok (.iadd, 1) := by decide +kernel
theorem dX12_of_10 : decode cX12_of 10 = .ok (.iaload, 1) := by decide +kernel
theorem dX12_of_11 : decode cX12_of 11 = .ok (.ireturn, 1) := by decide +kernel
theorem dX12_sets_0 : decode cX12_sets 0 = .ok (.aload_n 0, 1) := by decide +kernel
theorem dX12_sets_1 : decode cX12_sets 1 = .ok (.getfield 7, 3) := by decide +kernel
theorem dX12_sets_4 : decode cX12_sets 4 = .ok (.bipush 8, 2) := by decide +kernel
theorem dX12_sets_6 : decode cX12_sets 6 = .ok (.iload_n 1, 1) := by decide +kernel
theorem dX12_sets_7 : decode cX12_sets 7 = .ok (.imul, 1) := by decide +kernel
theorem dX12_sets_8 : decode cX12_sets 8 = .ok (.iload_n 2, 1) := by decide +kernel
theorem dX12_sets_9 : decode cX12_sets 9 = .ok (.iadd, 1) := by decide +kernel
theorem dX12_sets_10 : decode cX12_sets 10 = .ok (.iload_n 3, 1) := by decide +kernel
theorem dX12_sets_11 : decode cX12_sets 11 = .ok (.iastore, 1) := by decide +kernel
theorem dX12_sets_12 : decode cX12_sets 12 = .ok (.return_, 1) := by decide +kernel
theorem dX12_isFlight_0 : decode cX12_isFlight 0 = .ok (.iload_n 1, 1) := by decide +kernel
theorem dX12_isFlight_1 : decode cX12_isFlight 1 = .ok (.iconst 0, 1) := by decide +kernel
theorem dX12_isFlight_2 : decode cX12_isFlight 2 = .ok (.aload_n 0, 1) := by decide +kernel
theorem dX12_isFlight_3 : decode cX12_isFlight 3 = .ok (.getfield 7, 3) := by decide +kernel
theorem dX12_isFlight_6 : decode cX12_isFlight 6 = .ok (.sipush 173, 3) := by decide +kernel
theorem dX12_isFlight_9 : decode cX12_isFlight 9 = .ok (.iaload, 1) := by decide +kernel
theorem dX12_isFlight_10 : decode cX12_isFlight 10 = .ok (.iconst 1, 1) := by decide +kernel
theorem dX12_isFlight_11 : decode cX12_isFlight 11 = .ok (.isub, 1) := by decide +kernel
theorem dX12_isFlight_12 : decode cX12_isFlight 12 = .ok (.invokestatic 45, 3) := by decide +kernel
theorem dX12_isFlight_15 : decode cX12_isFlight 15 = .ok (.ireturn, 1) := by decide +kernel
theorem dX12_isLine_0 : decode cX12_isLine 0 = .ok (.iload_n 0, 1) := by decide +kernel
theorem dX12_isLine_1 : decode cX12_isLine 1 = .ok (.iconst 0, 1) := by decide +kernel
theorem dX12_isLine_2 : decode cX12_isLine 2 = .ok (.iconst 4, 1) := by decide +kernel
theorem dX12_isLine_3 : decode cX12_isLine 3 = .ok (.invokestatic 45, 3) := by decide +kernel
theorem dX12_isLine_6 : decode cX12_isLine 6 = .ok (.ireturn, 1) := by decide +kernel
theorem dX12_isMinute_0 : decode cX12_isMinute 0 = .ok (.iload_n 0, 1) := by decide +kernel
theorem dX12_isMinute_1 : decode cX12_isMinute 1 = .ok (.iconst 0, 1) := by decide +kernel
theorem dX12_isMinute_2 : decode cX12_isMinute 2 = .ok (.sipush 1199, 3) := by decide +kernel
theorem dX12_isMinute_5 : decode cX12_isMinute 5 = .ok (.invokestatic 45, 3) := by decide +kernel
theorem dX12_isMinute_8 : decode cX12_isMinute 8 = .ok (.ireturn, 1) := by decide +kernel
theorem dX12_areHours_0 : decode cX12_areHours 0 = .ok (.iload_n 0, 1) := by decide +kernel
theorem dX12_areHours_1 : decode cX12_areHours 1 = .ok (.iconst 0, 1) := by decide +kernel
theorem dX12_areHours_2 : decode cX12_areHours 2 = .ok (.bipush 11, 2) := by decide +kernel
theorem dX12_areHours_4 : decode cX12_areHours 4 = .ok (.invokestatic 45, 3) := by decide +kernel
theorem dX12_areHours_7 : decode cX12_areHours 7 = .ok (.ifCond .eq 17, 3) := by decide +kernel
theorem dX12_areHours_10 : decode cX12_areHours 10 = .ok (.iload_n 1, 1) := by decide +kernel
theorem dX12_areHours_11 : decode cX12_areHours 11 = .ok (.iload_n 0, 1) := by decide +kernel
theorem dX12_areHours_12 : decode cX12_areHours 12 = .ok (.bipush 11, 2) := by decide +kernel
theorem dX12_areHours_14 : decode cX12_areHours 14 = .ok (.invokestatic 45, 3) := by decide +kernel
theorem dX12_areHours_17 : decode cX12_areHours 17 = .ok (.ifCond .eq 7, 3) := by decide +kernel
theorem dX12_areHours_20 : decode cX12_areHours 20 = .ok (.iconst 1, 1) := by decide +kernel
theorem dX12_areHours_21 : decode cX12_areHours 21 = .ok (.goto 4, 3) := by decide +kernel
theorem dX12_areHours_24 : decode cX12_areHours 24 = .ok (.iconst 0, 1) := by decide +kernel
theorem dX12_areHours_25 : decode cX12_areHours 25 = .ok (.ireturn, 1) := by decide +kernel
theorem dX12_typed4_0 : decode cX12_typed4 0 = .ok (.iconst 3, 1) := by decide +kernel
theorem dX12_typed4_1 : decode cX12_typed4 1 = .ok (.istore_n 2, 1) := by decide +kernel
theorem dX12_typed4_2 : decode cX12_typed4 2 = .ok (.iload_n 2, 1) := by decide +kernel
theorem dX12_typed4_3 : decode cX12_typed4 3 = .ok (.ifCond .lt 35, 3) := by decide +kernel
theorem dX12_typed4_6 : decode cX12_typed4 6 = .ok (.aload_n 0, 1) := by decide +kernel
theorem dX12_typed4_7 : decode cX12_typed4 7 = .ok (.getfield 16, 3) := by decide +kernel
theorem dX12_typed4_10 : decode cX12_typed4 10 = .ok (.aload_n 0, 1) := by decide +kernel
theorem dX12_typed4_11 : decode cX12_typed4 11 = .ok (.getfield 49, 3) := by decide +kernel
theorem dX12_typed4_14 : decode cX12_typed4 14 = .ok (.iload_n 1, 1) := by decide +kernel
theorem dX12_typed4_15 : decode cX12_typed4 15 = .ok (.bipush 8, 2) := by decide +kernel
theorem dX12_typed4_17 : decode cX12_typed4 17 = .ok (.iload_n 2, 1) := by decide +kernel
theorem dX12_typed4_18 : decode cX12_typed4 18 = .ok (.imul, 1) := by decide +kernel
theorem dX12_typed4_19 : decode cX12_typed4 19 = .ok (.ishr, 1) := by decide +kernel
theorem dX12_typed4_20 : decode cX12_typed4 20 = .ok (.i2b, 1) := by decide +kernel
theorem dX12_typed4_21 : decode cX12_typed4 21 = .ok (.bastore, 1) := by decide +kernel
theorem dX12_typed4_22 : decode cX12_typed4 22 = .ok (.aload_n 0, 1) := by decide +kernel
theorem dX12_typed4_23 : decode cX12_typed4 23 = .ok (.aload_n 0, 1) := by decide +kernel
theorem dX12_typed4_24 : decode cX12_typed4 24 = .ok (.getfield 49, 3) := by decide +kernel
theorem dX12_typed4_27 : decode cX12_typed4 27 = .ok (.iconst 1, 1) := by decide +kernel
theorem dX12_typed4_28 : decode cX12_typed4 28 = .ok (.iadd, 1) := by decide +kernel
theorem dX12_typed4_29 : decode cX12_typed4 29 = .ok (.putfield 49, 3) := by decide +kernel
theorem dX12_typed4_32 : decode cX12_typed4 32 = .ok (.iinc 2 (-1), 3) := by decide +kernel
theorem dX12_typed4_35 : decode cX12_typed4 35 = .ok (.goto (-33), 3) := by decide +kernel
theorem dX12_typed4_38 : decode cX12_typed4 38 = .ok (.return_, 1) := by decide +kernel
theorem dX12_feed_0 : decode cX12_feed 0 = .ok (.aload_n 0, 1) := by decide +kernel
theorem dX12_feed_1 : decode cX12_feed 1 = .ok (.getfield 49, 3) := by decide +kernel
theorem dX12_feed_4 : decode cX12_feed 4 = .ok (.bipush 20, 2) := by decide +kernel
theorem dX12_feed_6 : decode cX12_feed 6 = .ok (.iadd, 1) := by decide +kernel
theorem dX12_feed_7 : decode cX12_feed 7 = .ok (.sipush 320, 3) := by decide +kernel
theorem dX12_feed_10 : decode cX12_feed 10 = .ok (.if_icmp .le 5, 3) := by decide +kernel
theorem dX12_feed_13 : decode cX12_feed 13 = .ok (.iconst (-1), 1) := by decide +kernel
theorem dX12_feed_14 : decode cX12_feed 14 = .ok (.ireturn, 1) := by decide +kernel
theorem dX12_feed_15 : decode cX12_feed 15 = .ok (.aload_n 0, 1) := by decide +kernel
theorem dX12_feed_16 : decode cX12_feed 16 = .ok (.iload_n 1, 1) := by decide +kernel
theorem dX12_feed_17 : decode cX12_feed 17 = .ok (.invokevirtual 53, 3) := by decide +kernel
theorem dX12_feed_20 : decode cX12_feed 20 = .ok (.aload_n 0, 1) := by decide +kernel
theorem dX12_feed_21 : decode cX12_feed 21 = .ok (.iload_n 2, 1) := by decide +kernel
theorem dX12_feed_22 : decode cX12_feed 22 = .ok (.invokevirtual 53, 3) := by decide +kernel
theorem dX12_feed_25 : decode cX12_feed 25 = .ok (.aload_n 0, 1) := by decide +kernel
theorem dX12_feed_26 : decode cX12_feed 26 = .ok (.iload_n 3, 1) := by decide +kernel
theorem dX12_feed_27 : decode cX12_feed 27 = .ok (.invokevirtual 53, 3) := by decide +kernel
theorem dX12_feed_30 : decode cX12_feed 30 = .ok (.aload_n 0, 1) := by decide +kernel
theorem dX12_feed_31 : decode cX12_feed 31 = .ok (.iload 4, 2) := by decide +kernel
theorem dX12_feed_33 : decode cX12_feed 33 = .ok (.invokevirtual 53, 3) := by decide +kernel
theorem dX12_feed_36 : decode cX12_feed 36 = .ok (.aload_n 0, 1) := by decide +kernel
theorem dX12_feed_37 : decode cX12_feed 37 = .ok (.iload 5, 2) := by decide +kernel
theorem dX12_feed_39 : decode cX12_feed 39 = .ok (.invokevirtual 53, 3) := by decide +kernel
theorem dX12_feed_42 : decode cX12_feed 42 = .ok (.aload_n 0, 1) := by decide +kernel
theorem dX12_feed_43 : decode cX12_feed 43 = .ok (.getfield 49, 3) := by decide +kernel
theorem dX12_feed_46 : decode cX12_feed 46 = .ok (.ireturn, 1) := by decide +kernel
theorem dX12_see_0 : decode cX12_see 0 = .ok (.aload_n 0, 1) := by decide +kernel
theorem dX12_see_1 : decode cX12_see 1 = .ok (.getfield 57, 3) := by decide +kernel
theorem dX12_see_4 : decode cX12_see 4 = .ok (.aload_n 0, 1) := by decide +kernel
theorem dX12_see_5 : decode cX12_see 5 = .ok (.getfield 60, 3) := by decide +kernel
theorem dX12_see_8 : decode cX12_see 8 = .ok (.if_icmp .ge 30, 3) := by decide +kernel
theorem dX12_see_11 : decode cX12_see 11 = .ok (.aload_n 0, 1) := by decide +kernel
theorem dX12_see_12 : decode cX12_see 12 = .ok (.getfield 16, 3) := by decide +kernel
theorem dX12_see_15 : decode cX12_see 15 = .ok (.aload_n 0, 1) := by decide +kernel
theorem dX12_see_16 : decode cX12_see 16 = .ok (.getfield 57, 3) := by decide +kernel
theorem dX12_see_19 : decode cX12_see 19 = .ok (.baload, 1) := by decide +kernel
theorem dX12_see_20 : decode cX12_see 20 = .ok (.bipush 32, 2) := by decide +kernel
theorem dX12_see_22 : decode cX12_see 22 = .ok (.if_icmp .ne 16, 3) := by decide +kernel
theorem dX12_see_25 : decode cX12_see 25 = .ok (.aload_n 0, 1) := by decide +kernel
theorem dX12_see_26 : decode cX12_see 26 = .ok (.aload_n 0, 1) := by decide +kernel
theorem dX12_see_27 : decode cX12_see 27 = .ok (.getfield 57, 3) := by decide +kernel
theorem dX12_see_30 : decode cX12_see 30 = .ok (.iconst 1, 1) := by decide +kernel
theorem dX12_see_31 : decode cX12_see 31 = .ok (.iadd, 1) := by decide +kernel
theorem dX12_see_32 : decode cX12_see 32 = .ok (.putfield 57, 3) := by decide +kernel
theorem dX12_see_35 : decode cX12_see 35 = .ok (.goto (-35), 3) := by decide +kernel
theorem dX12_see_38 : decode cX12_see 38 = .ok (.aload_n 0, 1) := by decide +kernel
theorem dX12_see_39 : decode cX12_see 39 = .ok (.getfield 57, 3) := by decide +kernel
theorem dX12_see_42 : decode cX12_see 42 = .ok (.aload_n 0, 1) := by decide +kernel
theorem dX12_see_43 : decode cX12_see 43 = .ok (.getfield 60, 3) := by decide +kernel
theorem dX12_see_46 : decode cX12_see 46 = .ok (.if_icmp .ge 19, 3) := by decide +kernel
theorem dX12_see_49 : decode cX12_see 49 = .ok (.aload_n 0, 1) := by decide +kernel
theorem dX12_see_50 : decode cX12_see 50 = .ok (.getfield 16, 3) := by decide +kernel
theorem dX12_see_53 : decode cX12_see 53 = .ok (.aload_n 0, 1) := by decide +kernel
theorem dX12_see_54 : decode cX12_see 54 = .ok (.getfield 57, 3) := by decide +kernel
theorem dX12_see_57 : decode cX12_see 57 = .ok (.baload, 1) := by decide +kernel
theorem dX12_see_58 : decode cX12_see 58 = .ok (.sipush 255, 3) := by decide +kernel
theorem dX12_see_61 : decode cX12_see 61 = .ok (.iand, 1) := by decide +kernel
theorem dX12_see_62 : decode cX12_see 62 = .ok (.goto 4, 3) := by decide +kernel
theorem dX12_see_65 : decode cX12_see 65 = .ok (.iconst (-1), 1) := by decide +kernel
theorem dX12_see_66 : decode cX12_see 66 = .ok (.ireturn, 1) := by decide +kernel
theorem dX12_wrong_0 : decode cX12_wrong 0 = .ok (.aload_n 0, 1) := by decide +kernel
theorem dX12_wrong_1 : decode cX12_wrong 1 = .ok (.getfield 63, 3) := by decide +kernel
theorem dX12_wrong_4 : decode cX12_wrong 4 = .ok (.ifCond .ne 14, 3) := by decide +kernel
theorem dX12_wrong_7 : decode cX12_wrong 7 = .ok (.aload_n 0, 1) := by decide +kernel
theorem dX12_wrong_8 : decode cX12_wrong 8 = .ok (.sipush (-1000), 3) := by decide +kernel
theorem dX12_wrong_11 : decode cX12_wrong 11 = .ok (.iload_n 1, 1) := by decide +kernel
theorem dX12_wrong_12 : decode cX12_wrong 12 = .ok (.imul, 1) := by decide +kernel
theorem dX12_wrong_13 : decode cX12_wrong 13 = .ok (.iload_n 2, 1) := by decide +kernel
theorem dX12_wrong_14 : decode cX12_wrong 14 = .ok (.isub, 1) := by decide +kernel
theorem dX12_wrong_15 : decode cX12_wrong 15 = .ok (.putfield 63, 3) := by decide +kernel
theorem dX12_wrong_18 : decode cX12_wrong 18 = .ok (.iconst 0, 1) := by decide +kernel
theorem dX12_wrong_19 : decode cX12_wrong 19 = .ok (.ireturn, 1) := by decide +kernel
theorem dX12_passes_0 : decode cX12_passes 0 = .ok (.aload_n 0, 1) := by decide +kernel
theorem dX12_passes_1 : decode cX12_passes 1 = .ok (.invokevirtual 66, 3) := by decide +kernel
theorem dX12_passes_4 : decode cX12_passes 4 = .ok (.iload_n 1, 1) := by decide +kernel
theorem dX12_passes_5 : decode cX12_passes 5 = .ok (.if_icmp .eq 13, 3) := by decide +kernel
theorem dX12_passes_8 : decode cX12_passes 8 = .ok (.aload_n 0, 1) := by decide +kernel
theorem dX12_passes_9 : decode cX12_passes 9 = .ok (.iconst 1, 1) := by decide +kernel
theorem dX12_passes_10 : decode cX12_passes 10 = .ok (.aload_n 0, 1) := by decide +kernel
theorem dX12_passes_11 : decode cX12_passes 11 = .ok (.getfield 57, 3) := by decide +kernel
theorem dX12_passes_14 : decode cX12_passes 14 = .ok (.invokevirtual 70, 3) := by decide +kernel
theorem dX12_passes_17 : decode cX12_passes 17 = .ok (.ireturn, 1) := by decide +kernel
theorem dX12_passes_18 : decode cX12_passes 18 = .ok (.aload_n 0, 1) := by decide +kernel
theorem dX12_passes_19 : decode cX12_passes 19 = .ok (.aload_n 0, 1) := by decide +kernel
theorem dX12_passes_20 : decode cX12_passes 20 = .ok (.getfield 57, 3) := by decide +kernel
theorem dX12_passes_23 : decode cX12_passes 23 = .ok (.iconst 1, 1) := by decide +kernel
theorem dX12_passes_24 : decode cX12_passes 24 = .ok (.iadd, 1) := by decide +kernel
theorem dX12_passes_25 : decode cX12_passes 25 = .ok (.putfield 57, 3) := by decide +kernel
theorem dX12_passes_28 : decode cX12_passes 28 = .ok (.iconst 1, 1) := by decide +kernel
theorem dX12_passes_29 : decode cX12_passes 29 = .ok (.ireturn, 1) := by decide +kernel
theorem dX12_isDigit_0 : decode cX12_isDigit 0 = .ok (.iload_n 0, 1) := by decide +kernel
theorem dX12_isDigit_1 : decode cX12_isDigit 1 = .ok (.bipush 48, 2) := by decide +kernel
theorem dX12_isDigit_3 : decode cX12_isDigit 3 = .ok (.bipush 57, 2) := by decide +kernel
theorem dX12_isDigit_5 : decode cX12_isDigit 5 = .ok (.invokestatic 45, 3) := by decide +kernel
theorem dX12_isDigit_8 : decode cX12_isDigit 8 = .ok (.ireturn, 1) := by decide +kernel
theorem dX12_counts_0 : decode cX12_counts 0 = .ok (.aload_n 0, 1) := by decide +kernel
theorem dX12_counts_1 : decode cX12_counts 1 = .ok (.invokevirtual 66, 3) := by decide +kernel
theorem dX12_counts_4 : decode cX12_counts 4 = .ok (.istore 4, 2) := by decide +kernel
theorem dX12_counts_6 : decode cX12_counts 6 = .ok (.aload_n 0, 1) := by decide +kernel
theorem dX12_counts_7 : decode cX12_counts 7 = .ok (.getfield 57, 3) := by decide +kernel
theorem dX12_counts_10 : decode cX12_counts 10 = .ok (.istore 5, 2) := by decide +kernel
theorem dX12_counts_12 : decode cX12_counts 12 = .ok (.iload 4, 2) := by decide +kernel
theorem dX12_counts_14 : decode cX12_counts 14 = .ok (.invokestatic 74, 3) := by decide +kernel
theorem dX12_counts_17 : decode cX12_counts 17 = .ok (.ifCond .ne 13, 3) := by decide +kernel
theorem dX12_counts_20 : decode cX12_counts 20 = .ok (.aload_n 0, 1) := by decide +kernel
theorem dX12_counts_21 : decode cX12_counts 21 = .ok (.iconst 1, 1) := by decide +kernel
theorem dX12_counts_22 : decode cX12_counts 22 = .ok (.aload_n 0, 1) := by decide +kernel
theorem dX12_counts_23 : decode cX12_counts 23 = .ok (.getfield 57, 3) := by decide +kernel
theorem dX12_counts_26 : decode cX12_counts 26 = .ok (.invokevirtual 70, 3) := by decide +kernel
theorem dX12_counts_29 : decode cX12_counts 29 = .ok (.ireturn, 1) := by decide +kernel
theorem dX12_counts_30 : decode cX12_counts 30 = .ok (.aload_n 0, 1) := by decide +kernel
theorem dX12_counts_31 : decode cX12_counts 31 = .ok (.iconst 0, 1) := by decide +kernel
theorem dX12_counts_32 : decode cX12_counts 32 = .ok (.putfield 78, 3) := by decide +kernel
theorem dX12_counts_35 : decode cX12_counts 35 = .ok (.aload_n 0, 1) := by decide +kernel
theorem dX12_counts_36 : decode cX12_counts 36 = .ok (.getfield 57, 3) := by decide +kernel
theorem dX12_counts_39 : decode cX12_counts 39 = .ok (.aload_n 0, 1) := by decide +kernel
theorem dX12_counts_40 : decode cX12_counts 40 = .ok (.getfield 60, 3) := by decide +kernel
theorem dX12_counts_43 : decode cX12_counts 43 = .ok (.if_icmp .ge 90, 3) := by decide +kernel
theorem dX12_counts_46 : decode cX12_counts 46 = .ok (.aload_n 0, 1) := by decide +kernel
theorem dX12_counts_47 : decode cX12_counts 47 = .ok (.getfield 16, 3) := by decide +kernel
theorem dX12_counts_50 : decode cX12_counts 50 = .ok (.aload_n 0, 1) := by decide +kernel
theorem dX12_counts_51 : decode cX12_counts 51 = .ok (.getfield 57, 3) := by decide +kernel
theorem dX12_counts_54 : decode cX12_counts 54 = .ok (.baload, 1) := by decide +kernel
theorem dX12_counts_55 : decode cX12_counts 55 = .ok (.invokestatic 74, 3) := by decide +kernel
theorem dX12_counts_58 : decode cX12_counts 58 = .ok (.ifCond .eq 75, 3) := by decide +kernel
theorem dX12_counts_61 : decode cX12_counts 61 = .ok (.iload_n 1, 1) := by decide +kernel
theorem dX12_counts_62 : decode cX12_counts 62 = .ok (.iconst 1, 1) := by decide +kernel
theorem dX12_counts_63 : decode cX12_counts 63 = .ok (.if_icmp .gt 12, 3) := by decide +kernel
theorem dX12_counts_66 : decode cX12_counts 66 = .ok (.aload_n 0, 1) := by decide +kernel
theorem dX12_counts_67 : decode cX12_counts 67 = .ok (.getfield 57, 3) := by decide +kernel
theorem dX12_counts_70 : decode cX12_counts 70 = .ok (.iload 5, 2) := by decide +kernel
theorem dX12_counts_72 : decode cX12_counts 72 = .ok (.if_icmp .ne 61, 3) := by decide +kernel
theorem dX12_counts_75 : decode cX12_counts 75 = .ok (.aload_n 0, 1) := by decide +kernel
theorem dX12_counts_76 : decode cX12_counts 76 = .ok (.getfield 57, 3) := by decide +kernel
theorem dX12_counts_79 : decode cX12_counts 79 = .ok (.iload 5, 2) := by decide +kernel
theorem dX12_counts_81 : decode cX12_counts 81 = .ok (.isub, 1) := by decide +kernel
theorem dX12_counts_82 : decode cX12_counts 82 = .ok (.iload_n 1, 1) := by decide +kernel
theorem dX12_counts_83 : decode cX12_counts 83 = .ok (.if_icmp .ne 13, 3) := by decide +kernel
theorem dX12_counts_86 : decode cX12_counts 86 = .ok (.aload_n 0, 1) := by decide +kernel
theorem dX12_counts_87 : decode cX12_counts 87 = .ok (.iconst 1, 1) := by decide +kernel
theorem dX12_counts_88 : decode cX12_counts 88 = .ok (.aload_n 0, 1) := by decide +kernel
theorem dX12_counts_89 : decode cX12_counts 89 = .ok (.getfield 57, 3) := by decide +kernel
theorem dX12_counts_92 : decode cX12_counts 92 = .ok (.invokevirtual 70, 3) := by decide +kernel
theorem dX12_counts_95 : decode cX12_counts 95 = .ok (.ireturn, 1) := by decide +kernel
theorem dX12_counts_96 : decode cX12_counts 96 = .ok (.aload_n 0, 1) := by decide +kernel
theorem dX12_counts_97 : decode cX12_counts 97 = .ok (.bipush 10, 2) := by decide +kernel
theorem dX12_counts_99 : decode cX12_counts 99 = .ok (.aload_n 0, 1) := by decide +kernel
theorem dX12_counts_100 : decode cX12_counts 100 = .ok (.getfield 78, 3) := by decide +kernel
theorem dX12_counts_103 : decode cX12_counts 103 = .ok (.imul, 1) := by decide +kernel
theorem dX12_counts_104 : decode cX12_counts 104 = .ok (.aload_n 0, 1) := by decide +kernel
theorem dX12_counts_105 : decode cX12_counts 105 = .ok (.getfield 16, 3) := by decide +kernel
theorem dX12_counts_108 : decode cX12_counts 108 = .ok (.aload_n 0, 1) := by decide +kernel
theorem dX12_counts_109 : decode cX12_counts 109 = .ok (.getfield 57, 3) := by decide +kernel
theorem dX12_counts_112 : decode cX12_counts 112 = .ok (.baload, 1) := by decide +kernel
theorem dX12_counts_113 : decode cX12_counts 113 = .ok (.iadd, 1) := by decide +kernel
theorem dX12_counts_114 : decode cX12_counts 114 = .ok (.bipush 48, 2) := by decide +kernel
theorem dX12_counts_116 : decode cX12_counts 116 = .ok (.isub, 1) := by decide +kernel
theorem dX12_counts_117 : decode cX12_counts 117 = .ok (.putfield 78, 3) := by decide +kernel
theorem dX12_counts_120 : decode cX12_counts 120 = .ok (.aload_n 0, 1) := by decide +kernel
theorem dX12_counts_121 : decode cX12_counts 121 = .ok (.aload_n 0, 1) := by decide +kernel
theorem dX12_counts_122 : decode cX12_counts 122 = .ok (.getfield 57, 3) := by decide +kernel
theorem dX12_counts_125 : decode cX12_counts 125 = .ok (.iconst 1, 1) := by decide +kernel
theorem dX12_counts_126 : decode cX12_counts 126 = .ok (.iadd, 1) := by decide +kernel
theorem dX12_counts_127 : decode cX12_counts 127 = .ok (.putfield 57, 3) := by decide +kernel
theorem dX12_counts_130 : decode cX12_counts 130 = .ok (.goto (-95), 3) := by decide +kernel
theorem dX12_counts_133 : decode cX12_counts 133 = .ok (.aload_n 0, 1) := by decide +kernel
theorem dX12_counts_134 : decode cX12_counts 134 = .ok (.getfield 78, 3) := by decide +kernel
theorem dX12_counts_137 : decode cX12_counts 137 = .ok (.iload_n 2, 1) := by decide +kernel
theorem dX12_counts_138 : decode cX12_counts 138 = .ok (.iload_n 3, 1) := by decide +kernel
theorem dX12_counts_139 : decode cX12_counts 139 = .ok (.invokestatic 45, 3) := by decide +kernel
theorem dX12_counts_142 : decode cX12_counts 142 = .ok (.ifCond .ne 13, 3) := by decide +kernel
theorem dX12_counts_145 : decode cX12_counts 145 = .ok (.aload_n 0, 1) := by decide +kernel
theorem dX12_counts_146 : decode cX12_counts 146 = .ok (.iconst 2, 1) := by decide +kernel
theorem dX12_counts_147 : decode cX12_counts 147 = .ok (.iload 5, 2) := by decide +kernel
theorem dX12_counts_149 : decode cX12_counts 149 = .ok (.invokevirtual 70, 3) := by decide +kernel
theorem dX12_counts_152 : decode cX12_counts 152 = .ok (.ifCond .eq 7, 3) := by decide +kernel
theorem dX12_counts_155 : decode cX12_counts 155 = .ok (.iconst 1, 1) := by decide +kernel
theorem dX12_counts_156 : decode cX12_counts 156 = .ok (.goto 4, 3) := by decide +kernel
theorem dX12_counts_159 : decode cX12_counts 159 = .ok (.iconst 0, 1) := by decide +kernel
theorem dX12_counts_160 : decode cX12_counts 160 = .ok (.ireturn, 1) := by decide +kernel
theorem dX12_readsFlight_0 : decode cX12_readsFlight 0 = .ok (.aload_n 0, 1) := by decide +kernel
theorem dX12_readsFlight_1 : decode cX12_readsFlight 1 = .ok (.invokevirtual 66, 3) := by decide +kernel
theorem dX12_readsFlight_4 : decode cX12_readsFlight 4 = .ok (.istore_n 2, 1) := by decide +kernel
theorem dX12_readsFlight_5 : decode cX12_readsFlight 5 = .ok (.iload_n 2, 1) := by decide +kernel
theorem dX12_readsFlight_6 : decode cX12_readsFlight 6 = .ok (.bipush 97, 2) := by decide +kernel
theorem dX12_readsFlight_8 : decode cX12_readsFlight 8 = .ok (.bipush 101, 2) := by decide +kernel
theorem dX12_readsFlight_10 : decode cX12_readsFlight 10 = .ok (.invokestatic 45, 3) := by decide +kernel
theorem dX12_readsFlight_13 : decode cX12_readsFlight 13 = .ok (.ifCond .ne 14, 3) := by decide +kernel
theorem dX12_readsFlight_16 : decode cX12_readsFlight 16 = .ok (.aload_n 0, 1) := by decide +kernel
theorem dX12_readsFlight_17 : decode cX12_readsFlight 17 = .ok (.iconst 1, 1) := by decide +kernel
theorem dX12_readsFlight_18 : decode cX12_readsFlight 18 = .ok (.aload_n 0, 1) := by decide +kernel
theorem dX12_readsFlight_19 : decode cX12_readsFlight 19 = .ok (.getfield 57, 3) := by decide +kernel
theorem dX12_readsFlight_22 : decode cX12_readsFlight 22 = .ok (.invokevirtual 70, 3) := by decide +kernel
theorem dX12_readsFlight_25 : decode cX12_readsFlight 25 = .ok (.pop, 1) := by decide +kernel
theorem dX12_readsFlight_26 : decode cX12_readsFlight 26 = .ok (.return_, 1) := by decide +kernel
theorem dX12_readsFlight_27 : decode cX12_readsFlight 27 = .ok (.iload_n 1, 1) := by decide +kernel
theorem dX12_readsFlight_28 : decode cX12_readsFlight 28 = .ok (.bipush 20, 2) := by decide +kernel
theorem dX12_readsFlight_30 : decode cX12_readsFlight 30 = .ok (.if_icmp .ne 14, 3) := by decide +kernel
theorem dX12_readsFlight_33 : decode cX12_readsFlight 33 = .ok (.aload_n 0, 1) := by decide +kernel
theorem dX12_readsFlight_34 : decode cX12_readsFlight 34 = .ok (.iconst 3, 1) := by decide +kernel
theorem dX12_readsFlight_35 : decode cX12_readsFlight 35 = .ok (.aload_n 0, 1) := by decide +kernel
theorem dX12_readsFlight_36 : decode cX12_readsFlight 36 = .ok (.getfield 57, 3) := by decide +kernel
theorem dX12_readsFlight_39 : decode cX12_readsFlight 39 = .ok (.invokevirtual 70, 3) := by decide +kernel
theorem dX12_readsFlight_42 : decode cX12_readsFlight 42 = .ok (.pop, 1) := by decide +kernel
theorem dX12_readsFlight_43 : decode cX12_readsFlight 43 = .ok (.return_, 1) := by decide +kernel
theorem dX12_readsFlight_44 : decode cX12_readsFlight 44 = .ok (.aload_n 0, 1) := by decide +kernel
theorem dX12_readsFlight_45 : decode cX12_readsFlight 45 = .ok (.aload_n 0, 1) := by decide +kernel
theorem dX12_readsFlight_46 : decode cX12_readsFlight 46 = .ok (.getfield 57, 3) := by decide +kernel
theorem dX12_readsFlight_49 : decode cX12_readsFlight 49 = .ok (.iconst 1, 1) := by decide +kernel
theorem dX12_readsFlight_50 : decode cX12_readsFlight 50 = .ok (.iadd, 1) := by decide +kernel
theorem dX12_readsFlight_51 : decode cX12_readsFlight 51 = .ok (.putfield 57, 3) := by decide +kernel
theorem dX12_readsFlight_54 : decode cX12_readsFlight 54 = .ok (.aload_n 0, 1) := by decide +kernel
theorem dX12_readsFlight_55 : decode cX12_readsFlight 55 = .ok (.getfield 20, 3) := by decide +kernel
theorem dX12_readsFlight_58 : decode cX12_readsFlight 58 = .ok (.iconst 4, 1) := by decide +kernel
theorem dX12_readsFlight_59 : decode cX12_readsFlight 59 = .ok (.iload_n 1, 1) := by decide +kernel
theorem dX12_readsFlight_60 : decode cX12_readsFlight 60 = .ok (.imul, 1) := by decide +kernel
theorem dX12_readsFlight_61 : decode cX12_readsFlight 61 = .ok (.iload_n 2, 1) := by decide +kernel
theorem dX12_readsFlight_62 : decode cX12_readsFlight 62 = .ok (.bipush 97, 2) := by decide +kernel
theorem dX12_readsFlight_64 : decode cX12_readsFlight 64 = .ok (.isub, 1) := by decide +kernel
theorem dX12_readsFlight_65 : decode cX12_readsFlight 65 = .ok (.iastore, 1) := by decide +kernel
theorem dX12_readsFlight_66 : decode cX12_readsFlight 66 = .ok (.aload_n 0, 1) := by decide +kernel
theorem dX12_readsFlight_67 : decode cX12_readsFlight 67 = .ok (.iconst 3, 1) := by decide +kernel
theorem dX12_readsFlight_68 : decode cX12_readsFlight 68 = .ok (.iconst 0, 1) := by decide +kernel
theorem dX12_readsFlight_69 : decode cX12_readsFlight 69 = .ok (.sipush 719, 3) := by decide +kernel
theorem dX12_readsFlight_72 : decode cX12_readsFlight 72 = .ok (.invokevirtual 81, 3) := by decide +kernel
theorem dX12_readsFlight_75 : decode cX12_readsFlight 75 = .ok (.ifCond .ne 4, 3) := by decide +kernel
theorem dX12_readsFlight_78 : decode cX12_readsFlight 78 = .ok (.return_, 1) := by decide +kernel
theorem dX12_readsFlight_79 : decode cX12_readsFlight 79 = .ok (.aload_n 0, 1) := by decide +kernel
theorem dX12_readsFlight_80 : decode cX12_readsFlight 80 = .ok (.getfield 20, 3) := by decide +kernel
theorem dX12_readsFlight_83 : decode cX12_readsFlight 83 = .ok (.iconst 4, 1) := by decide +kernel
theorem dX12_readsFlight_84 : decode cX12_readsFlight 84 = .ok (.iload_n 1, 1) := by decide +kernel
theorem dX12_readsFlight_85 : decode cX12_readsFlight 85 = .ok (.imul, 1) := by decide +kernel
theorem dX12_readsFlight_86 : decode cX12_readsFlight 86 = .ok (.iconst 1, 1) := by decide +kernel
theorem dX12_readsFlight_87 : decode cX12_readsFlight 87 = .ok (.iadd, 1) := by decide +kernel
theorem dX12_readsFlight_88 : decode cX12_readsFlight 88 = .ok (.aload_n 0, 1) := by decide +kernel
theorem dX12_readsFlight_89 : decode cX12_readsFlight 89 = .ok (.getfield 78, 3) := by decide +kernel
theorem dX12_readsFlight_92 : decode cX12_readsFlight 92 = .ok (.iastore, 1) := by decide +kernel
theorem dX12_readsFlight_93 : decode cX12_readsFlight 93 = .ok (.aload_n 0, 1) := by decide +kernel
theorem dX12_readsFlight_94 : decode cX12_readsFlight 94 = .ok (.bipush 47, 2) := by decide +kernel
theorem dX12_readsFlight_96 : decode cX12_readsFlight 96 = .ok (.invokevirtual 84, 3) := by decide +kernel
theorem dX12_readsFlight_99 : decode cX12_readsFlight 99 = .ok (.ifCond .eq 15, 3) := by decide +kernel
theorem dX12_readsFlight_102 : decode cX12_readsFlight 102 = .ok (.aload_n 0, 1) := by decide +kernel
theorem dX12_readsFlight_103 : decode cX12_readsFlight 103 = .ok (.iconst 3, 1) := by decide +kernel
theorem dX12_readsFlight_104 : decode cX12_readsFlight 104 = .ok (.iconst 0, 1) := by decide +kernel
theorem dX12_readsFlight_105 : decode cX12_readsFlight 105 = .ok (.sipush 300, 3) := by decide +kernel
theorem dX12_readsFlight_108 : decode cX12_readsFlight 108 = .ok (.invokevirtual 81, 3) := by decide +kernel
theorem dX12_readsFlight_111 : decode cX12_readsFlight 111 = .ok (.ifCond .ne 4, 3) := by decide +kernel
theorem dX12_readsFlight_114 : decode cX12_readsFlight 114 = .ok (.return_, 1) := by decide +kernel
theorem dX12_readsFlight_115 : decode cX12_readsFlight 115 = .ok (.aload_n 0, 1) := by decide +kernel
theorem dX12_readsFlight_116 : decode cX12_readsFlight 116 = .ok (.getfield 20, 3) := by decide +kernel
theorem dX12_readsFlight_119 : decode cX12_readsFlight 119 = .ok (.iconst 4, 1) := by decide +kernel
theorem dX12_readsFlight_120 : decode cX12_readsFlight 120 = .ok (.iload_n 1, 1) := by decide +kernel
theorem dX12_readsFlight_121 : decode cX12_readsFlight 121 = .ok (.imul, 1) := by decide +kernel
theorem dX12_readsFlight_122 : decode cX12_readsFlight 122 = .ok (.iconst 2, 1) := by decide +kernel
theorem dX12_readsFlight_123 : decode cX12_readsFlight 123 = .ok (.iadd, 1) := by decide +kernel
theorem dX12_readsFlight_124 : decode cX12_readsFlight 124 = .ok (.aload_n 0, 1) := by decide +kernel
theorem dX12_readsFlight_125 : decode cX12_readsFlight 125 = .ok (.getfield 78, 3) := by decide +kernel
theorem dX12_readsFlight_128 : decode cX12_readsFlight 128 = .ok (.iastore, 1) := by decide +kernel
theorem dX12_readsFlight_129 : decode cX12_readsFlight 129 = .ok (.aload_n 0, 1) := by decide +kernel
theorem dX12_readsFlight_130 : decode cX12_readsFlight 130 = .ok (.getfield 20, 3) := by decide +kernel
theorem dX12_readsFlight_133 : decode cX12_readsFlight 133 = .ok (.iconst 4, 1) := by decide +kernel
theorem dX12_readsFlight_134 : decode cX12_readsFlight 134 = .ok (.iload_n 1, 1) := by decide +kernel
theorem dX12_readsFlight_135 : decode cX12_readsFlight 135 = .ok (.imul, 1) := by decide +kernel
theorem dX12_readsFlight_136 : decode cX12_readsFlight 136 = .ok (.iconst 3, 1) := by decide +kernel
theorem dX12_readsFlight_137 : decode cX12_readsFlight 137 = .ok (.iadd, 1) := by decide +kernel
theorem dX12_readsFlight_138 : decode cX12_readsFlight 138 = .ok (.iconst 1, 1) := by decide +kernel
theorem dX12_readsFlight_139 : decode cX12_readsFlight 139 = .ok (.iastore, 1) := by decide +kernel
theorem dX12_readsFlight_140 : decode cX12_readsFlight 140 = .ok (.aload_n 0, 1) := by decide +kernel
theorem dX12_readsFlight_141 : decode cX12_readsFlight 141 = .ok (.invokevirtual 66, 3) := by decide +kernel
theorem dX12_readsFlight_144 : decode cX12_readsFlight 144 = .ok (.bipush 42, 2) := by decide +kernel
theorem dX12_readsFlight_146 : decode cX12_readsFlight 146 = .ok (.if_icmp .eq 4, 3) := by decide +kernel
theorem dX12_readsFlight_149 : decode cX12_readsFlight 149 = .ok (.return_, 1) := by decide +kernel
theorem dX12_readsFlight_150 : decode cX12_readsFlight 150 = .ok (.aload_n 0, 1) := by decide +kernel
theorem dX12_readsFlight_151 : decode cX12_readsFlight 151 = .ok (.aload_n 0, 1) := by decide +kernel
theorem dX12_readsFlight_152 : decode cX12_readsFlight 152 = .ok (.getfield 57, 3) := by decide +kernel
theorem dX12_readsFlight_155 : decode cX12_readsFlight 155 = .ok (.iconst 1, 1) := by decide +kernel
theorem dX12_readsFlight_156 : decode cX12_readsFlight 156 = .ok (.iadd, 1) := by decide +kernel
theorem dX12_readsFlight_157 : decode cX12_readsFlight 157 = .ok (.putfield 57, 3) := by decide +kernel
theorem dX12_readsFlight_160 : decode cX12_readsFlight 160 = .ok (.aload_n 0, 1) := by decide +kernel
theorem dX12_readsFlight_161 : decode cX12_readsFlight 161 = .ok (.iconst 1, 1) := by decide +kernel
theorem dX12_readsFlight_162 : decode cX12_readsFlight 162 = .ok (.iconst 1, 1) := by decide +kernel
theorem dX12_readsFlight_163 : decode cX12_readsFlight 163 = .ok (.bipush 9, 2) := by decide +kernel
theorem dX12_readsFlight_165 : decode cX12_readsFlight 165 = .ok (.invokevirtual 81, 3) := by decide +kernel
theorem dX12_readsFlight_168 : decode cX12_readsFlight 168 = .ok (.ifCond .eq 17, 3) := by decide +kernel
theorem dX12_readsFlight_171 : decode cX12_readsFlight 171 = .ok (.aload_n 0, 1) := by decide +kernel
theorem dX12_readsFlight_172 : decode cX12_readsFlight 172 = .ok (.getfield 20, 3) := by decide +kernel
theorem dX12_readsFlight_175 : decode cX12_readsFlight 175 = .ok (.iconst 4, 1) := by decide +kernel
theorem dX12_readsFlight_176 : decode cX12_readsFlight 176 = .ok (.iload_n 1, 1) := by decide +kernel
theorem dX12_readsFlight_177 : decode cX12_readsFlight 177 = .ok (.imul, 1) := by decide +kernel
theorem dX12_readsFlight_178 : decode cX12_readsFlight 178 = .ok (.iconst 3, 1) := by decide +kernel
theorem dX12_readsFlight_179 : decode cX12_readsFlight 179 = .ok (.iadd, 1) := by decide +kernel
theorem dX12_readsFlight_180 : decode cX12_readsFlight 180 = .ok (.aload_n 0, 1) := by decide +kernel
theorem dX12_readsFlight_181 : decode cX12_readsFlight 181 = .ok (.getfield 78, 3) := by decide +kernel
theorem dX12_readsFlight_184 : decode cX12_readsFlight 184 = .ok (.iastore, 1) := by decide +kernel
theorem dX12_readsFlight_185 : decode cX12_readsFlight 185 = .ok (.return_, 1) := by decide +kernel
theorem dX12_clears_0 : decode cX12_clears 0 = .ok (.aload_n 0, 1) := by decide +kernel
theorem dX12_clears_1 : decode cX12_clears 1 = .ok (.getfield 7, 3) := by decide +kernel
theorem dX12_clears_4 : decode cX12_clears 4 = .ok (.sipush 173, 3) := by decide +kernel
theorem dX12_clears_7 : decode cX12_clears 7 = .ok (.iconst 0, 1) := by decide +kernel
theorem dX12_clears_8 : decode cX12_clears 8 = .ok (.iastore, 1) := by decide +kernel
theorem dX12_clears_9 : decode cX12_clears 9 = .ok (.aload_n 0, 1) := by decide +kernel
theorem dX12_clears_10 : decode cX12_clears 10 = .ok (.getfield 7, 3) := by decide +kernel
theorem dX12_clears_13 : decode cX12_clears 13 = .ok (.sipush 174, 3) := by decide +kernel
theorem dX12_clears_16 : decode cX12_clears 16 = .ok (.iconst 0, 1) := by decide +kernel
theorem dX12_clears_17 : decode cX12_clears 17 = .ok (.iastore, 1) := by decide +kernel
theorem dX12_clears_18 : decode cX12_clears 18 = .ok (.aload_n 0, 1) := by decide +kernel
theorem dX12_clears_19 : decode cX12_clears 19 = .ok (.getfield 7, 3) := by decide +kernel
theorem dX12_clears_22 : decode cX12_clears 22 = .ok (.sipush 175, 3) := by decide +kernel
theorem dX12_clears_25 : decode cX12_clears 25 = .ok (.iconst 0, 1) := by decide +kernel
theorem dX12_clears_26 : decode cX12_clears 26 = .ok (.iastore, 1) := by decide +kernel
theorem dX12_clears_27 : decode cX12_clears 27 = .ok (.aload_n 0, 1) := by decide +kernel
theorem dX12_clears_28 : decode cX12_clears 28 = .ok (.invokevirtual 87, 3) := by decide +kernel
theorem dX12_clears_31 : decode cX12_clears 31 = .ok (.return_, 1) := by decide +kernel
theorem dX12_clearsPlan_0 : decode cX12_clearsPlan 0 = .ok (.iconst 0, 1) := by decide +kernel
theorem dX12_clearsPlan_1 : decode cX12_clearsPlan 1 = .ok (.istore_n 1, 1) := by decide +kernel
theorem dX12_clearsPlan_2 : decode cX12_clearsPlan 2 = .ok (.iload_n 1, 1) := by decide +kernel
theorem dX12_clearsPlan_3 : decode cX12_clearsPlan 3 = .ok (.sipush 1200, 3) := by decide +kernel
theorem dX12_clearsPlan_6 : decode cX12_clearsPlan 6 = .ok (.if_icmp .ge 20, 3) := by decide +kernel
theorem dX12_clearsPlan_9 : decode cX12_clearsPlan 9 = .ok (.aload_n 0, 1) := by decide +kernel
theorem dX12_clearsPlan_10 : decode cX12_clearsPlan 10 = .ok (.getfield 7, 3) := by decide +kernel
theorem dX12_clearsPlan_13 : decode cX12_clearsPlan 13 = .ok (.sipush 252, 3) := by decide +kernel
theorem dX12_clearsPlan_16 : decode cX12_clearsPlan 16 = .ok (.iload_n 1, 1) := by decide +kernel
theorem dX12_clearsPlan_17 : decode cX12_clearsPlan 17 = .ok (.iadd, 1) := by decide +kernel
theorem dX12_clearsPlan_18 : decode cX12_clearsPlan 18 = .ok (.iconst 0, 1) := by decide +kernel
theorem dX12_clearsPlan_19 : decode cX12_clearsPlan 19 = .ok (.iastore, 1) := by decide +kernel
theorem dX12_clearsPlan_20 : decode cX12_clearsPlan 20 = .ok (.iinc 1 1, 3) := by decide +kernel
theorem dX12_clearsPlan_23 : decode cX12_clearsPlan 23 = .ok (.goto (-21), 3) := by decide +kernel
theorem dX12_clearsPlan_26 : decode cX12_clearsPlan 26 = .ok (.iconst 0, 1) := by decide +kernel
theorem dX12_clearsPlan_27 : decode cX12_clearsPlan 27 = .ok (.istore_n 1, 1) := by decide +kernel
theorem dX12_clearsPlan_28 : decode cX12_clearsPlan 28 = .ok (.iload_n 1, 1) := by decide +kernel
theorem dX12_clearsPlan_29 : decode cX12_clearsPlan 29 = .ok (.bipush 8, 2) := by decide +kernel
theorem dX12_clearsPlan_31 : decode cX12_clearsPlan 31 = .ok (.if_icmp .ge 24, 3) := by decide +kernel
theorem dX12_clearsPlan_34 : decode cX12_clearsPlan 34 = .ok (.aload_n 0, 1) := by decide +kernel
theorem dX12_clearsPlan_35 : decode cX12_clearsPlan 35 = .ok (.getfield 7, 3) := by decide +kernel
theorem dX12_clearsPlan_38 : decode cX12_clearsPlan 38 = .ok (.sipush 176, 3) := by decide +kernel
theorem dX12_clearsPlan_41 : decode cX12_clearsPlan 41 = .ok (.iconst 5, 1) := by decide +kernel
theorem dX12_clearsPlan_42 : decode cX12_clearsPlan 42 = .ok (.iload_n 1, 1) := by decide +kernel
theorem dX12_clearsPlan_43 : decode cX12_clearsPlan 43 = .ok (.imul, 1) := by decide +kernel
theorem dX12_clearsPlan_44 : decode cX12_clearsPlan 44 = .ok (.iadd, 1) := by decide +kernel
theorem dX12_clearsPlan_45 : decode cX12_clearsPlan 45 = .ok (.iconst 4, 1) := by decide +kernel
theorem dX12_clearsPlan_46 : decode cX12_clearsPlan 46 = .ok (.iadd, 1) := by decide +kernel
theorem dX12_clearsPlan_47 : decode cX12_clearsPlan 47 = .ok (.iconst 0, 1) := by decide +kernel
theorem dX12_clearsPlan_48 : decode cX12_clearsPlan 48 = .ok (.iastore, 1) := by decide +kernel
theorem dX12_clearsPlan_49 : decode cX12_clearsPlan 49 = .ok (.iinc 1 1, 3) := by decide +kernel
theorem dX12_clearsPlan_52 : decode cX12_clearsPlan 52 = .ok (.goto (-24), 3) := by decide +kernel
theorem dX12_clearsPlan_55 : decode cX12_clearsPlan 55 = .ok (.return_, 1) := by decide +kernel
theorem dX12_adds_0 : decode cX12_adds 0 = .ok (.aload_n 0, 1) := by decide +kernel
theorem dX12_adds_1 : decode cX12_adds 1 = .ok (.getfield 7, 3) := by decide +kernel
theorem dX12_adds_4 : decode cX12_adds 4 = .ok (.sipush 173, 3) := by decide +kernel
theorem dX12_adds_7 : decode cX12_adds 7 = .ok (.iaload, 1) := by decide +kernel
theorem dX12_adds_8 : decode cX12_adds 8 = .ok (.istore 5, 2) := by decide +kernel
theorem dX12_adds_10 : decode cX12_adds 10 = .ok (.aload_n 0, 1) := by decide +kernel
theorem dX12_adds_11 : decode cX12_adds 11 = .ok (.iload 5, 2) := by decide +kernel
theorem dX12_adds_13 : decode cX12_adds 13 = .ok (.iconst 0, 1) := by decide +kernel
theorem dX12_adds_14 : decode cX12_adds 14 = .ok (.iload_n 1, 1) := by decide +kernel
theorem dX12_adds_15 : decode cX12_adds 15 = .ok (.invokevirtual 90, 3) := by decide +kernel
theorem dX12_adds_18 : decode cX12_adds 18 = .ok (.aload_n 0, 1) := by decide +kernel
theorem dX12_adds_19 : decode cX12_adds 19 = .ok (.iload 5, 2) := by decide +kernel
theorem dX12_adds_21 : decode cX12_adds 21 = .ok (.iconst 1, 1) := by decide +kernel
theorem dX12_adds_22 : decode cX12_adds 22 = .ok (.iload_n 2, 1) := by decide +kernel
theorem dX12_adds_23 : decode cX12_adds 23 = .ok (.invokevirtual 90, 3) := by decide +kernel
theorem dX12_adds_26 : decode cX12_adds 26 = .ok (.aload_n 0, 1) := by decide +kernel
theorem dX12_adds_27 : decode cX12_adds 27 = .ok (.iload 5, 2) := by decide +kernel
theorem dX12_adds_29 : decode cX12_adds 29 = .ok (.iconst 2, 1) := by decide +kernel
theorem dX12_adds_30 : decode cX12_adds 30 = .ok (.iload_n 3, 1) := by decide +kernel
theorem dX12_adds_31 : decode cX12_adds 31 = .ok (.invokevirtual 90, 3) := by decide +kernel
theorem dX12_adds_34 : decode cX12_adds 34 = .ok (.aload_n 0, 1) := by decide +kernel
theorem dX12_adds_35 : decode cX12_adds 35 = .ok (.iload 5, 2) := by decide +kernel
theorem dX12_adds_37 : decode cX12_adds 37 = .ok (.iconst 3, 1) := by decide +kernel
theorem dX12_adds_38 : decode cX12_adds 38 = .ok (.iload 4, 2) := by decide +kernel
theorem dX12_adds_40 : decode cX12_adds 40 = .ok (.invokevirtual 90, 3) := by decide +kernel
theorem dX12_adds_43 : decode cX12_adds 43 = .ok (.aload_n 0, 1) := by decide +kernel
theorem dX12_adds_44 : decode cX12_adds 44 = .ok (.iload 5, 2) := by decide +kernel
theorem dX12_adds_46 : decode cX12_adds 46 = .ok (.iconst 4, 1) := by decide +kernel
theorem dX12_adds_47 : decode cX12_adds 47 = .ok (.iconst (-1), 1) := by decide +kernel
theorem dX12_adds_48 : decode cX12_adds 48 = .ok (.invokevirtual 90, 3) := by decide +kernel
theorem dX12_adds_51 : decode cX12_adds 51 = .ok (.aload_n 0, 1) := by decide +kernel
theorem dX12_adds_52 : decode cX12_adds 52 = .ok (.iload 5, 2) := by decide +kernel
theorem dX12_adds_54 : decode cX12_adds 54 = .ok (.iconst 5, 1) := by decide +kernel
theorem dX12_adds_55 : decode cX12_adds 55 = .ok (.iconst 0, 1) := by decide +kernel
theorem dX12_adds_56 : decode cX12_adds 56 = .ok (.invokevirtual 90, 3) := by decide +kernel
theorem dX12_adds_59 : decode cX12_adds 59 = .ok (.aload_n 0, 1) := by decide +kernel
theorem dX12_adds_60 : decode cX12_adds 60 = .ok (.iload 5, 2) := by decide +kernel
theorem dX12_adds_62 : decode cX12_adds 62 = .ok (.bipush 6, 2) := by decide +kernel
theorem dX12_adds_64 : decode cX12_adds 64 = .ok (.iconst 0, 1) := by decide +kernel
theorem dX12_adds_65 : decode cX12_adds 65 = .ok (.invokevirtual 90, 3) := by decide +kernel
theorem dX12_adds_68 : decode cX12_adds 68 = .ok (.aload_n 0, 1) := by decide +kernel
theorem dX12_adds_69 : decode cX12_adds 69 = .ok (.iload 5, 2) := by decide +kernel
theorem dX12_adds_71 : decode cX12_adds 71 = .ok (.bipush 7, 2) := by decide +kernel
theorem dX12_adds_73 : decode cX12_adds 73 = .ok (.iconst 0, 1) := by decide +kernel
theorem dX12_adds_74 : decode cX12_adds 74 = .ok (.invokevirtual 90, 3) := by decide +kernel
theorem dX12_adds_77 : decode cX12_adds 77 = .ok (.aload_n 0, 1) := by decide +kernel
theorem dX12_adds_78 : decode cX12_adds 78 = .ok (.getfield 7, 3) := by decide +kernel
theorem dX12_adds_81 : decode cX12_adds 81 = .ok (.sipush 173, 3) := by decide +kernel
theorem dX12_adds_84 : decode cX12_adds 84 = .ok (.iload 5, 2) := by decide +kernel
theorem dX12_adds_86 : decode cX12_adds 86 = .ok (.iconst 1, 1) := by decide +kernel
theorem dX12_adds_87 : decode cX12_adds 87 = .ok (.iadd, 1) := by decide +kernel
theorem dX12_adds_88 : decode cX12_adds 88 = .ok (.iastore, 1) := by decide +kernel
theorem dX12_adds_89 : decode cX12_adds 89 = .ok (.return_, 1) := by decide +kernel
theorem dX12_schedule_0 : decode cX12_schedule 0 = .ok (.iload_n 1, 1) := by decide +kernel
theorem dX12_schedule_1 : decode cX12_schedule 1 = .ok (.iconst 1, 1) := by decide +kernel
theorem dX12_schedule_2 : decode cX12_schedule 2 = .ok (.sipush 160, 3) := by decide +kernel
theorem dX12_schedule_5 : decode cX12_schedule 5 = .ok (.invokestatic 45, 3) := by decide +kernel
theorem dX12_schedule_8 : decode cX12_schedule 8 = .ok (.ifCond .eq 11, 3) := by decide +kernel
theorem dX12_schedule_11 : decode cX12_schedule 11 = .ok (.iload_n 1, 1) := by decide +kernel
theorem dX12_schedule_12 : decode cX12_schedule 12 = .ok (.aload_n 0, 1) := by decide +kernel
theorem dX12_schedule_13 : decode cX12_schedule 13 = .ok (.getfield 49, 3) := by decide +kernel
theorem dX12_schedule_16 : decode cX12_schedule 16 = .ok (.if_icmp .le 5, 3) := by decide +kernel
theorem dX12_schedule_19 : decode cX12_schedule 19 = .ok (.iconst (-1), 1) := by decide +kernel
theorem dX12_schedule_20 : decode cX12_schedule 20 = .ok (.ireturn, 1) := by decide +kernel
theorem dX12_schedule_21 : decode cX12_schedule 21 = .ok (.aload_n 0, 1) := by decide +kernel
theorem dX12_schedule_22 : decode cX12_schedule 22 = .ok (.iconst 0, 1) := by decide +kernel
theorem dX12_schedule_23 : decode cX12_schedule 23 = .ok (.putfield 49, 3) := by decide +kernel
theorem dX12_schedule_26 : decode cX12_schedule 26 = .ok (.aload_n 0, 1) := by decide +kernel
theorem dX12_schedule_27 : decode cX12_schedule 27 = .ok (.iload_n 1, 1) := by decide +kernel
theorem dX12_schedule_28 : decode cX12_schedule 28 = .ok (.putfield 60, 3) := by decide +kernel
theorem dX12_schedule_31 : decode cX12_schedule 31 = .ok (.aload_n 0, 1) := by decide +kernel
theorem dX12_schedule_32 : decode cX12_schedule 32 = .ok (.iconst 0, 1) := by decide +kernel
theorem dX12_schedule_33 : decode cX12_schedule 33 = .ok (.putfield 57, 3) := by decide +kernel
theorem dX12_schedule_36 : decode cX12_schedule 36 = .ok (.aload_n 0, 1) := by decide +kernel
theorem dX12_schedule_37 : decode cX12_schedule 37 = .ok (.iconst 0, 1) := by decide +kernel
theorem dX12_schedule_38 : decode cX12_schedule 38 = .ok (.putfield 63, 3) := by decide +kernel
theorem dX12_schedule_41 : decode cX12_schedule 41 = .ok (.iconst 0, 1) := by decide +kernel
theorem dX12_schedule_42 : decode cX12_schedule 42 = .ok (.istore_n 2, 1) := by decide +kernel
theorem dX12_schedule_43 : decode cX12_schedule 43 = .ok (.iconst 1, 1) := by decide +kernel
theorem dX12_schedule_44 : decode cX12_schedule 44 = .ok (.istore_n 3, 1) := by decide +kernel
theorem dX12_schedule_45 : decode cX12_schedule 45 = .ok (.iload_n 3, 1) := by decide +kernel
theorem dX12_schedule_46 : decode cX12_schedule 46 = .ok (.ifCond .eq 45, 3) := by decide +kernel
theorem dX12_schedule_49 : decode cX12_schedule 49 = .ok (.aload_n 0, 1) := by decide +kernel
theorem dX12_schedule_50 : decode cX12_schedule 50 = .ok (.iload_n 2, 1) := by decide +kernel
theorem dX12_schedule_51 : decode cX12_schedule 51 = .ok (.invokevirtual 94, 3) := by decide +kernel
theorem dX12_schedule_54 : decode cX12_schedule 54 = .ok (.iload_n 2, 1) := by decide +kernel
theorem dX12_schedule_55 : decode cX12_schedule 55 = .ok (.iconst 1, 1) := by decide +kernel
theorem dX12_schedule_56 : decode cX12_schedule 56 = .ok (.iadd, 1) := by decide +kernel
theorem dX12_schedule_57 : decode cX12_schedule 57 = .ok (.istore_n 2, 1) := by decide +kernel
theorem dX12_schedule_58 : decode cX12_schedule 58 = .ok (.aload_n 0, 1) := by decide +kernel
theorem dX12_schedule_59 : decode cX12_schedule 59 = .ok (.getfield 63, 3) := by decide +kernel
theorem dX12_schedule_62 : decode cX12_schedule 62 = .ok (.ifCond .ne 24, 3) := by decide +kernel
theorem dX12_schedule_65 : decode cX12_schedule 65 = .ok (.aload_n 0, 1) := by decide +kernel
theorem dX12_schedule_66 : decode cX12_schedule 66 = .ok (.invokevirtual 66, 3) := by decide +kernel
theorem dX12_schedule_69 : decode cX12_schedule 69 = .ok (.iconst (-1), 1) := by decide +kernel
theorem dX12_schedule_70 : decode cX12_schedule 70 = .ok (.if_icmp .eq 16, 3) := by decide +kernel
theorem dX12_schedule_73 : decode cX12_schedule 73 = .ok (.aload_n 0, 1) := by decide +kernel
theorem dX12_schedule_74 : decode cX12_schedule 74 = .ok (.bipush 59, 2) := by decide +kernel
theorem dX12_schedule_76 : decode cX12_schedule 76 = .ok (.invokevirtual 84, 3) := by decide +kernel
theorem dX12_schedule_79 : decode cX12_schedule 79 = .ok (.ifCond .eq 7, 3) := by decide +kernel
theorem dX12_schedule_82 : decode cX12_schedule 82 = .ok (.iconst 1, 1) := by decide +kernel
theorem dX12_schedule_83 : decode cX12_schedule 83 = .ok (.goto 4, 3) := by decide +kernel
theorem dX12_schedule_86 : decode cX12_schedule 86 = .ok (.iconst 0, 1) := by decide +kernel
theorem dX12_schedule_87 : decode cX12_schedule 87 = .ok (.istore_n 3, 1) := by decide +kernel
theorem dX12_schedule_88 : decode cX12_schedule 88 = .ok (.goto (-43), 3) := by decide +kernel
theorem dX12_schedule_91 : decode cX12_schedule 91 = .ok (.aload_n 0, 1) := by decide +kernel
theorem dX12_schedule_92 : decode cX12_schedule 92 = .ok (.getfield 63, 3) := by decide +kernel
theorem dX12_schedule_95 : decode cX12_schedule 95 = .ok (.ifCond .eq 8, 3) := by decide +kernel
theorem dX12_schedule_98 : decode cX12_schedule 98 = .ok (.aload_n 0, 1) := by decide +kernel
theorem dX12_schedule_99 : decode cX12_schedule 99 = .ok (.getfield 63, 3) := by decide +kernel
theorem dX12_schedule_102 : decode cX12_schedule 102 = .ok (.ireturn, 1) := by decide +kernel
theorem dX12_schedule_103 : decode cX12_schedule 103 = .ok (.aload_n 0, 1) := by decide +kernel
theorem dX12_schedule_104 : decode cX12_schedule 104 = .ok (.invokevirtual 97, 3) := by decide +kernel
theorem dX12_schedule_107 : decode cX12_schedule 107 = .ok (.iconst 0, 1) := by decide +kernel
theorem dX12_schedule_108 : decode cX12_schedule 108 = .ok (.istore 4, 2) := by decide +kernel
theorem dX12_schedule_110 : decode cX12_schedule 110 = .ok (.iload 4, 2) := by decide +kernel
theorem dX12_schedule_112 : decode cX12_schedule 112 = .ok (.iload_n 2, 1) := by decide +kernel
theorem dX12_schedule_113 : decode cX12_schedule 113 = .ok (.if_icmp .ge 55, 3) := by decide +kernel
theorem dX12_schedule_116 : decode cX12_schedule 116 = .ok (.aload_n 0, 1) := by decide +kernel
theorem dX12_schedule_117 : decode cX12_schedule 117 = .ok (.aload_n 0, 1) := by decide +kernel
theorem dX12_schedule_118 : decode cX12_schedule 118 = .ok (.getfield 20, 3) := by decide +kernel
theorem dX12_schedule_121 : decode cX12_schedule 121 = .ok (.iconst 4, 1) := by decide +kernel
theorem dX12_schedule_122 : decode cX12_schedule 122 = .ok (.iload 4, 2) := by decide +kernel
theorem dX12_schedule_124 : decode cX12_schedule 124 = .ok (.imul, 1) := by decide +kernel
theorem dX12_schedule_125 : decode cX12_schedule 125 = .ok (.iaload, 1) := by decide +kernel
theorem dX12_schedule_126 : decode cX12_schedule 126 = .ok (.aload_n 0, 1) := by decide +kernel
theorem dX12_schedule_127 : decode cX12_schedule 127 = .ok (.getfield 20, 3) := by decide +kernel
theorem dX12_schedule_130 : decode cX12_schedule 130 = .ok (.iconst 4, 1) := by decide +kernel
theorem dX12_schedule_131 : decode cX12_schedule 131 = .ok (.iload 4, 2) := by decide +kernel
theorem dX12_schedule_133 : decode cX12_schedule 133 = .ok (.imul, 1) := by decide +kernel
theorem dX12_schedule_134 : decode cX12_schedule 134 = .ok (.iconst 1, 1) := by decide +kernel
theorem dX12_schedule_135 : decode cX12_schedule 135 = .ok (.iadd, 1) := by decide +kernel
theorem dX12_schedule_136 : decode cX12_schedule 136 = .ok (.iaload, 1) := by decide +kernel
theorem dX12_schedule_137 : decode cX12_schedule 137 = .ok (.aload_n 0, 1) := by decide +kernel
theorem dX12_schedule_138 : decode cX12_schedule 138 = .ok (.getfield 20, 3) := by decide +kernel
theorem dX12_schedule_141 : decode cX12_schedule 141 = .ok (.iconst 4, 1) := by decide +kernel
theorem dX12_schedule_142 : decode cX12_schedule 142 = .ok (.iload 4, 2) := by decide +kernel
theorem dX12_schedule_144 : decode cX12_schedule 144 = .ok (.imul, 1) := by decide +kernel
theorem dX12_schedule_145 : decode cX12_schedule 145 = .ok (.iconst 2, 1) := by decide +kernel
theorem dX12_schedule_146 : decode cX12_schedule 146 = .ok (.iadd, 1) := by decide +kernel
theorem dX12_schedule_147 : decode cX12_schedule 147 = .ok (.iaload, 1) := by decide +kernel
theorem dX12_schedule_148 : decode cX12_schedule 148 = .ok (.aload_n 0, 1) := by decide +kernel
theorem dX12_schedule_149 : decode cX12_schedule 149 = .ok (.getfield 20, 3) := by decide +kernel
theorem dX12_schedule_152 : decode cX12_schedule 152 = .ok (.iconst 4, 1) := by decide +kernel
theorem dX12_schedule_153 : decode cX12_schedule 153 = .ok (.iload 4, 2) := by decide +kernel
theorem dX12_schedule_155 : decode cX12_schedule 155 = .ok (.imul, 1) := by decide +kernel
theorem dX12_schedule_156 : decode cX12_schedule 156 = .ok (.iconst 3, 1) := by decide +kernel
theorem dX12_schedule_157 : decode cX12_schedule 157 = .ok (.iadd, 1) := by decide +kernel
theorem dX12_schedule_158 : decode cX12_schedule 158 = .ok (.iaload, 1) := by decide +kernel
theorem dX12_schedule_159 : decode cX12_schedule 159 = .ok (.invokevirtual 100, 3) := by decide +kernel
theorem dX12_schedule_162 : decode cX12_schedule 162 = .ok (.iinc 4 1, 3) := by decide +kernel
theorem dX12_schedule_165 : decode cX12_schedule 165 = .ok (.goto (-55), 3) := by decide +kernel
theorem dX12_schedule_168 : decode cX12_schedule 168 = .ok (.iload_n 2, 1) := by decide +kernel
theorem dX12_schedule_169 : decode cX12_schedule 169 = .ok (.ireturn, 1) := by decide +kernel
theorem dX12_flight_0 : decode cX12_flight 0 = .ok (.iload_n 1, 1) := by decide +kernel
theorem dX12_flight_1 : decode cX12_flight 1 = .ok (.invokestatic 104, 3) := by decide +kernel
theorem dX12_flight_4 : decode cX12_flight 4 = .ok (.ifCond .eq 36, 3) := by decide +kernel
theorem dX12_flight_7 : decode cX12_flight 7 = .ok (.iload_n 2, 1) := by decide +kernel
theorem dX12_flight_8 : decode cX12_flight 8 = .ok (.iconst 0, 1) := by decide +kernel
theorem dX12_flight_9 : decode cX12_flight 9 = .ok (.sipush 719, 3) := by decide +kernel
theorem dX12_flight_12 : decode cX12_flight 12 = .ok (.invokestatic 45, 3) := by decide +kernel
theorem dX12_flight_15 : decode cX12_flight 15 = .ok (.ifCond .eq 25, 3) := by decide +kernel
theorem dX12_flight_18 : decode cX12_flight 18 = .ok (.iload_n 3, 1) := by decide +kernel
theorem dX12_flight_19 : decode cX12_flight 19 = .ok (.iconst 0, 1) := by decide +kernel
theorem dX12_flight_20 : decode cX12_flight 20 = .ok (.sipush 300, 3) := by decide +kernel
theorem dX12_flight_23 : decode cX12_flight 23 = .ok (.invokestatic 45, 3) := by decide +kernel
theorem dX12_flight_26 : decode cX12_flight 26 = .ok (.ifCond .eq 14, 3) := by decide +kernel
theorem dX12_flight_29 : decode cX12_flight 29 = .ok (.iload 4, 2) := by decide +kernel
theorem dX12_flight_31 : decode cX12_flight 31 = .ok (.iconst 1, 1) := by decide +kernel
theorem dX12_flight_32 : decode cX12_flight 32 = .ok (.bipush 9, 2) := by decide +kernel
theorem dX12_flight_34 : decode cX12_flight 34 = .ok (.invokestatic 45, 3) := by decide +kernel
theorem dX12_flight_37 : decode cX12_flight 37 = .ok (.ifCond .ne 5, 3) := by decide +kernel
theorem dX12_flight_40 : decode cX12_flight 40 = .ok (.iconst (-1), 1) := by decide +kernel
theorem dX12_flight_41 : decode cX12_flight 41 = .ok (.ireturn, 1) := by decide +kernel
theorem dX12_flight_42 : decode cX12_flight 42 = .ok (.aload_n 0, 1) := by decide +kernel
theorem dX12_flight_43 : decode cX12_flight 43 = .ok (.getfield 7, 3) := by decide +kernel
theorem dX12_flight_46 : decode cX12_flight 46 = .ok (.sipush 173, 3) := by decide +kernel
theorem dX12_flight_49 : decode cX12_flight 49 = .ok (.iaload, 1) := by decide +kernel
theorem dX12_flight_50 : decode cX12_flight 50 = .ok (.bipush 20, 2) := by decide +kernel
theorem dX12_flight_52 : decode cX12_flight 52 = .ok (.if_icmp .ne 6, 3) := by decide +kernel
theorem dX12_flight_55 : decode cX12_flight 55 = .ok (.bipush (-2), 2) := by decide +kernel
theorem dX12_flight_57 : decode cX12_flight 57 = .ok (.ireturn, 1) := by decide +kernel
theorem dX12_flight_58 : decode cX12_flight 58 = .ok (.aload_n 0, 1) := by decide +kernel
theorem dX12_flight_59 : decode cX12_flight 59 = .ok (.iload_n 1, 1) := by decide +kernel
theorem dX12_flight_60 : decode cX12_flight 60 = .ok (.iload_n 2, 1) := by decide +kernel
theorem dX12_flight_61 : decode cX12_flight 61 = .ok (.iload_n 3, 1) := by decide +kernel
theorem dX12_flight_62 : decode cX12_flight 62 = .ok (.iload 4, 2) := by decide +kernel
theorem dX12_flight_64 : decode cX12_flight 64 = .ok (.invokevirtual 100, 3) := by decide +kernel
theorem dX12_flight_67 : decode cX12_flight 67 = .ok (.aload_n 0, 1) := by decide +kernel
theorem dX12_flight_68 : decode cX12_flight 68 = .ok (.getfield 7, 3) := by decide +kernel
theorem dX12_flight_71 : decode cX12_flight 71 = .ok (.sipush 173, 3) := by decide +kernel
theorem dX12_flight_74 : decode cX12_flight 74 = .ok (.iaload, 1) := by decide +kernel
theorem dX12_flight_75 : decode cX12_flight 75 = .ok (.iconst 1, 1) := by decide +kernel
theorem dX12_flight_76 : decode cX12_flight 76 = .ok (.isub, 1) := by decide +kernel
theorem dX12_flight_77 : decode cX12_flight 77 = .ok (.ireturn, 1) := by decide +kernel
theorem dX12_draw_0 : decode cX12_draw 0 = .ok (.aload_n 0, 1) := by decide +kernel
theorem dX12_draw_1 : decode cX12_draw 1 = .ok (.sipush 25173, 3) := by decide +kernel
theorem dX12_draw_4 : decode cX12_draw 4 = .ok (.aload_n 0, 1) := by decide +kernel
theorem dX12_draw_5 : decode cX12_draw 5 = .ok (.getfield 107, 3) := by decide +kernel
theorem dX12_draw_8 : decode cX12_draw 8 = .ok (.imul, 1) := by decide +kernel
theorem dX12_draw_9 : decode cX12_draw 9 = .ok (.sipush 13849, 3) := by decide +kernel
theorem dX12_draw_12 : decode cX12_draw 12 = .ok (.iadd, 1) := by decide +kernel
theorem dX12_draw_13 : decode cX12_draw 13 = .ok (.ldc 110, 2) := by decide +kernel
theorem dX12_draw_15 : decode cX12_draw 15 = .ok (.irem, 1) := by decide +kernel
theorem dX12_draw_16 : decode cX12_draw 16 = .ok (.putfield 107, 3) := by decide +kernel
theorem dX12_draw_19 : decode cX12_draw 19 = .ok (.aload_n 0, 1) := by decide +kernel
theorem dX12_draw_20 : decode cX12_draw 20 = .ok (.getfield 107, 3) := by decide +kernel
theorem dX12_draw_23 : decode cX12_draw 23 = .ok (.iconst 4, 1) := by decide +kernel
theorem dX12_draw_24 : decode cX12_draw 24 = .ok (.idiv, 1) := by decide +kernel
theorem dX12_draw_25 : decode cX12_draw 25 = .ok (.iload_n 1, 1) := by decide +kernel
theorem dX12_draw_26 : decode cX12_draw 26 = .ok (.irem, 1) := by decide +kernel
theorem dX12_draw_27 : decode cX12_draw 27 = .ok (.ireturn, 1) := by decide +kernel
theorem dX12_draws_0 : decode cX12_draws 0 = .ok (.iload_n 2, 1) := by decide +kernel
theorem dX12_draws_1 : decode cX12_draws 1 = .ok (.iconst 1, 1) := by decide +kernel
theorem dX12_draws_2 : decode cX12_draws 2 = .ok (.bipush 20, 2) := by decide +kernel
theorem dX12_draws_4 : decode cX12_draws 4 = .ok (.invokestatic 45, 3) := by decide +kernel
theorem dX12_draws_7 : decode cX12_draws 7 = .ok (.ifCond .ne 5, 3) := by decide +kernel
theorem dX12_draws_10 : decode cX12_draws 10 = .ok (.iconst (-1), 1) := by decide +kernel
theorem dX12_draws_11 : decode cX12_draws 11 = .ok (.ireturn, 1) := by decide +kernel
theorem dX12_draws_12 : decode cX12_draws 12 = .ok (.aload_n 0, 1) := by decide +kernel
theorem dX12_draws_13 : decode cX12_draws 13 = .ok (.iload_n 1, 1) := by decide +kernel
theorem dX12_draws_14 : decode cX12_draws 14 = .ok (.ldc 111, 2) := by decide +kernel
theorem dX12_draws_16 : decode cX12_draws 16 = .ok (.iand, 1) := by decide +kernel
theorem dX12_draws_17 : decode cX12_draws 17 = .ok (.putfield 107, 3) := by decide +kernel
theorem dX12_draws_20 : decode cX12_draws 20 = .ok (.aload_n 0, 1) := by decide +kernel
theorem dX12_draws_21 : decode cX12_draws 21 = .ok (.invokevirtual 97, 3) := by decide +kernel
theorem dX12_draws_24 : decode cX12_draws 24 = .ok (.iconst 0, 1) := by decide +kernel
theorem dX12_draws_25 : decode cX12_draws 25 = .ok (.istore_n 3, 1) := by decide +kernel
theorem dX12_draws_26 : decode cX12_draws 26 = .ok (.iload_n 3, 1) := by decide +kernel
theorem dX12_draws_27 : decode cX12_draws 27 = .ok (.iload_n 2, 1) := by decide +kernel
theorem dX12_draws_28 : decode cX12_draws 28 = .ok (.if_icmp .ge 52, 3) := by decide +kernel
theorem dX12_draws_31 : decode cX12_draws 31 = .ok (.aload_n 0, 1) := by decide +kernel
theorem dX12_draws_32 : decode cX12_draws 32 = .ok (.iconst 5, 1) := by decide +kernel
theorem dX12_draws_33 : decode cX12_draws 33 = .ok (.invokevirtual 112, 3) := by decide +kernel
theorem dX12_draws_36 : decode cX12_draws 36 = .ok (.istore 4, 2) := by decide +kernel
theorem dX12_draws_38 : decode cX12_draws 38 = .ok (.aload_n 0, 1) := by decide +kernel
theorem dX12_draws_39 : decode cX12_draws 39 = .ok (.sipush 720, 3) := by decide +kernel
theorem dX12_draws_42 : decode cX12_draws 42 = .ok (.invokevirtual 112, 3) := by decide +kernel
theorem dX12_draws_45 : decode cX12_draws 45 = .ok (.istore 5, 2) := by decide +kernel
theorem dX12_draws_47 : decode cX12_draws 47 = .ok (.aload_n 0, 1) := by decide +kernel
theorem dX12_draws_48 : decode cX12_draws 48 = .ok (.sipush 301, 3) := by decide +kernel
theorem dX12_draws_51 : decode cX12_draws 51 = .ok (.invokevirtual 112, 3) := by decide +kernel
theorem dX12_draws_54 : decode cX12_draws 54 = .ok (.istore 6, 2) := by decide +kernel
theorem dX12_draws_56 : decode cX12_draws 56 = .ok (.aload_n 0, 1) := by decide +kernel
theorem dX12_draws_57 : decode cX12_draws 57 = .ok (.iload 4, 2) := by decide +kernel
theorem dX12_draws_59 : decode cX12_draws 59 = .ok (.iload 5, 2) := by decide +kernel
theorem dX12_draws_61 : decode cX12_draws 61 = .ok (.iload 6, 2) := by decide +kernel
theorem dX12_draws_63 : decode cX12_draws 63 = .ok (.aload_n 0, 1) := by decide +kernel
theorem dX12_draws_64 : decode cX12_draws 64 = .ok (.bipush 9, 2) := by decide +kernel
theorem dX12_draws_66 : decode cX12_draws 66 = .ok (.invokevirtual 112, 3) := by decide +kernel
theorem dX12_draws_69 : decode cX12_draws 69 = .ok (.iconst 1, 1) := by decide +kernel
theorem dX12_draws_70 : decode cX12_draws 70 = .ok (.iadd, 1) := by decide +kernel
theorem dX12_draws_71 : decode cX12_draws 71 = .ok (.invokevirtual 100, 3) := by decide +kernel
theorem dX12_draws_74 : decode cX12_draws 74 = .ok (.iinc 3 1, 3) := by decide +kernel
theorem dX12_draws_77 : decode cX12_draws 77 = .ok (.goto (-51), 3) := by decide +kernel
theorem dX12_draws_80 : decode cX12_draws 80 = .ok (.aload_n 0, 1) := by decide +kernel
theorem dX12_draws_81 : decode cX12_draws 81 = .ok (.getfield 107, 3) := by decide +kernel
theorem dX12_draws_84 : decode cX12_draws 84 = .ok (.ireturn, 1) := by decide +kernel
theorem dX12_writes_0 : decode cX12_writes 0 = .ok (.aload_n 0, 1) := by decide +kernel
theorem dX12_writes_1 : decode cX12_writes 1 = .ok (.getfield 116, 3) := by decide +kernel
theorem dX12_writes_4 : decode cX12_writes 4 = .ok (.aload_n 0, 1) := by decide +kernel
theorem dX12_writes_5 : decode cX12_writes 5 = .ok (.getfield 119, 3) := by decide +kernel
theorem dX12_writes_8 : decode cX12_writes 8 = .ok (.if_icmp .ne 8, 3) := by decide +kernel
theorem dX12_writes_11 : decode cX12_writes 11 = .ok (.aload_n 0, 1) := by decide +kernel
theorem dX12_writes_12 : decode cX12_writes 12 = .ok (.iload_n 1, 1) := by decide +kernel
theorem dX12_writes_13 : decode cX12_writes 13 = .ok (.putfield 122, 3) := by decide +kernel
theorem dX12_writes_16 : decode cX12_writes 16 = .ok (.aload_n 0, 1) := by decide +kernel
theorem dX12_writes_17 : decode cX12_writes 17 = .ok (.aload_n 0, 1) := by decide +kernel
theorem dX12_writes_18 : decode cX12_writes 18 = .ok (.getfield 116, 3) := by decide +kernel
theorem dX12_writes_21 : decode cX12_writes 21 = .ok (.iconst 1, 1) := by decide +kernel
theorem dX12_writes_22 : decode cX12_writes 22 = .ok (.iadd, 1) := by decide +kernel
theorem dX12_writes_23 : decode cX12_writes 23 = .ok (.putfield 116, 3) := by decide +kernel
theorem dX12_writes_26 : decode cX12_writes 26 = .ok (.return_, 1) := by decide +kernel
theorem dX12_writesNumber_0 : decode cX12_writesNumber 0 = .ok (.iload_n 1, 1) := by decide +kernel
theorem dX12_writesNumber_1 : decode cX12_writesNumber 1 = .ok (.bipush 99, 2) := by decide +kernel
theorem dX12_writesNumber_3 : decode cX12_writesNumber 3 = .ok (.if_icmp .le 14, 3) := by decide +kernel
theorem dX12_writesNumber_6 : decode cX12_writesNumber 6 = .ok (.aload_n 0, 1) := by decide +kernel
theorem dX12_writesNumber_7 : decode cX12_writesNumber 7 = .ok (.bipush 48, 2) := by decide +kernel
theorem dX12_writesNumber_9 : decode cX12_writesNumber 9 = .ok (.iload_n 1, 1) := by decide +kernel
theorem dX12_writesNumber_10 : decode cX12_writesNumber 10 = .ok (.bipush 100, 2) := by decide +kernel
theorem dX12_writesNumber_12 : decode cX12_writesNumber 12 = .ok (.idiv, 1) := by decide +kernel
theorem dX12_writesNumber_13 : decode cX12_writesNumber 13 = .ok (.iadd, 1) := by decide +kernel
theorem dX12_writesNumber_14 : decode cX12_writesNumber 14 = .ok (.invokevirtual 125, 3) := by decide +kernel
theorem dX12_writesNumber_17 : decode cX12_writesNumber 17 = .ok (.iload_n 1, 1) := by decide +kernel
theorem dX12_writesNumber_18 : decode cX12_writesNumber 18 = .ok (.bipush 9, 2) := by decide +kernel
theorem dX12_writesNumber_20 : decode cX12_writesNumber 20 = .ok (.if_icmp .le 17, 3) := by decide +kernel
theorem dX12_writesNumber_23 : decode cX12_writesNumber 23 = .ok (.aload_n 0, 1) := by decide +kernel
theorem dX12_writesNumber_24 : decode cX12_writesNumber 24 = .ok (.bipush 48, 2) := by decide +kernel
theorem dX12_writesNumber_26 : decode cX12_writesNumber 26 = .ok (.iload_n 1, 1) := by decide +kernel
theorem dX12_writesNumber_27 : decode cX12_writesNumber 27 = .ok (.bipush 10, 2) := by decide +kernel
theorem dX12_writesNumber_29 : decode cX12_writesNumber 29 = .ok (.idiv, 1) := by decide +kernel
theorem dX12_writesNumber_30 : decode cX12_writesNumber 30 = .ok (.bipush 10, 2) := by decide +kernel
theorem dX12_writesNumber_32 : decode cX12_writesNumber 32 = .ok (.irem, 1) := by decide +kernel
theorem dX12_writesNumber_33 : decode cX12_writesNumber 33 = .ok (.iadd, 1) := by decide +kernel
theorem dX12_writesNumber_34 : decode cX12_writesNumber 34 = .ok (.invokevirtual 125, 3) := by decide +kernel
theorem dX12_writesNumber_37 : decode cX12_writesNumber 37 = .ok (.aload_n 0, 1) := by decide +kernel
theorem dX12_writesNumber_38 : decode cX12_writesNumber 38 = .ok (.bipush 48, 2) := by decide +kernel
theorem dX12_writesNumber_40 : decode cX12_writesNumber 40 = .ok (.iload_n 1, 1) := by decide +kernel
theorem dX12_writesNumber_41 : decode cX12_writesNumber 41 = .ok (.bipush 10, 2) := by decide +kernel
theorem dX12_writesNumber_43 : decode cX12_writesNumber 43 = .ok (.irem, 1) := by decide +kernel
theorem dX12_writesNumber_44 : decode cX12_writesNumber 44 = .ok (.iadd, 1) := by decide +kernel
theorem dX12_writesNumber_45 : decode cX12_writesNumber 45 = .ok (.invokevirtual 125, 3) := by decide +kernel
theorem dX12_writesNumber_48 : decode cX12_writesNumber 48 = .ok (.return_, 1) := by decide +kernel
theorem dX12_letter_0 : decode cX12_letter 0 = .ok (.iload_n 1, 1) := by decide +kernel
theorem dX12_letter_1 : decode cX12_letter 1 = .ok (.iconst (-1), 1) := by decide +kernel
theorem dX12_letter_2 : decode cX12_letter 2 = .ok (.if_icmp .ge 5, 3) := by decide +kernel
theorem dX12_letter_5 : decode cX12_letter 5 = .ok (.iconst (-1), 1) := by decide +kernel
theorem dX12_letter_6 : decode cX12_letter 6 = .ok (.ireturn, 1) := by decide +kernel
theorem dX12_letter_7 : decode cX12_letter 7 = .ok (.aload_n 0, 1) := by decide +kernel
theorem dX12_letter_8 : decode cX12_letter 8 = .ok (.iconst 0, 1) := by decide +kernel
theorem dX12_letter_9 : decode cX12_letter 9 = .ok (.putfield 116, 3) := by decide +kernel
theorem dX12_letter_12 : decode cX12_letter 12 = .ok (.aload_n 0, 1) := by decide +kernel
theorem dX12_letter_13 : decode cX12_letter 13 = .ok (.iload_n 1, 1) := by decide +kernel
theorem dX12_letter_14 : decode cX12_letter 14 = .ok (.putfield 119, 3) := by decide +kernel
theorem dX12_letter_17 : decode cX12_letter 17 = .ok (.iconst 0, 1) := by decide +kernel
theorem dX12_letter_18 : decode cX12_letter 18 = .ok (.istore_n 2, 1) := by decide +kernel
theorem dX12_letter_19 : decode cX12_letter 19 = .ok (.iload_n 2, 1) := by decide +kernel
theorem dX12_letter_20 : decode cX12_letter 20 = .ok (.aload_n 0, 1) := by decide +kernel
theorem dX12_letter_21 : decode cX12_letter 21 = .ok (.getfield 7, 3) := by decide +kernel
theorem dX12_letter_24 : decode cX12_letter 24 = .ok (.sipush 173, 3) := by decide +kernel
theorem dX12_letter_27 : decode cX12_letter 27 = .ok (.iaload, 1) := by decide +kernel
theorem dX12_letter_28 : decode cX12_letter 28 = .ok (.if_icmp .ge 84, 3) := by decide +kernel
theorem dX12_letter_31 : decode cX12_letter 31 = .ok (.iload_n 2, 1) := by decide +kernel
theorem dX12_letter_32 : decode cX12_letter 32 = .ok (.ifCond .le 9, 3) := by decide +kernel
theorem dX12_letter_35 : decode cX12_letter 35 = .ok (.aload_n 0, 1) := by decide +kernel
theorem dX12_letter_36 : decode cX12_letter 36 = .ok (.bipush 59, 2) := by decide +kernel
theorem dX12_letter_38 : decode cX12_letter 38 = .ok (.invokevirtual 125, 3) := by decide +kernel
theorem dX12_letter_41 : decode cX12_letter 41 = .ok (.aload_n 0, 1) := by decide +kernel
theorem dX12_letter_42 : decode cX12_letter 42 = .ok (.bipush 97, 2) := by decide +kernel
theorem dX12_letter_44 : decode cX12_letter 44 = .ok (.aload_n 0, 1) := by decide +kernel
theorem dX12_letter_45 : decode cX12_letter 45 = .ok (.iload_n 2, 1) := by decide +kernel
theorem dX12_letter_46 : decode cX12_letter 46 = .ok (.iconst 0, 1) := by decide +kernel
theorem dX12_letter_47 : decode cX12_letter 47 = .ok (.invokevirtual 128, 3) := by decide +kernel
theorem dX12_letter_50 : decode cX12_letter 50 = .ok (.iadd, 1) := by decide +kernel
theorem dX12_letter_51 : decode cX12_letter 51 = .ok (.invokevirtual 125, 3) := by decide +kernel
theorem dX12_letter_54 : decode cX12_letter 54 = .ok (.aload_n 0, 1) := by decide +kernel
theorem dX12_letter_55 : decode cX12_letter 55 = .ok (.aload_n 0, 1) := by decide +kernel
theorem dX12_letter_56 : decode cX12_letter 56 = .ok (.iload_n 2, 1) := by decide +kernel
theorem dX12_letter_57 : decode cX12_letter 57 = .ok (.iconst 1, 1) := by decide +kernel
theorem dX12_letter_58 : decode cX12_letter 58 = .ok (.invokevirtual 128, 3) := by decide +kernel
theorem dX12_letter_61 : decode cX12_letter 61 = .ok (.invokevirtual 132, 3) := by decide +kernel
theorem dX12_letter_64 : decode cX12_letter 64 = .ok (.aload_n 0, 1) := by decide +kernel
theorem dX12_letter_65 : decode cX12_letter 65 = .ok (.bipush 47, 2) := by decide +kernel
theorem dX12_letter_67 : decode cX12_letter 67 = .ok (.invokevirtual 125, 3) := by decide +kernel
theorem dX12_letter_70 : decode cX12_letter 70 = .ok (.aload_n 0, 1) := by decide +kernel
theorem dX12_letter_71 : decode cX12_letter 71 = .ok (.aload_n 0, 1) := by decide +kernel
theorem dX12_letter_72 : decode cX12_letter 72 = .ok (.iload_n 2, 1) := by decide +kernel
theorem dX12_letter_73 : decode cX12_letter 73 = .ok (.iconst 2, 1) := by decide +kernel
theorem dX12_letter_74 : decode cX12_letter 74 = .ok (.invokevirtual 128, 3) := by decide +kernel
theorem dX12_letter_77 : decode cX12_letter 77 = .ok (.invokevirtual 132, 3) := by decide +kernel
theorem dX12_letter_80 : decode cX12_letter 80 = .ok (.aload_n 0, 1) := by decide +kernel
theorem dX12_letter_81 : decode cX12_letter 81 = .ok (.iload_n 2, 1) := by decide +kernel
theorem dX12_letter_82 : decode cX12_letter 82 = .ok (.iconst 3, 1) := by decide +kernel
theorem dX12_letter_83 : decode cX12_letter 83 = .ok (.invokevirtual 128, 3) := by decide +kernel
theorem dX12_letter_86 : decode cX12_letter 86 = .ok (.iconst 1, 1) := by decide +kernel
theorem dX12_letter_87 : decode cX12_letter 87 = .ok (.if_icmp .le 19, 3) := by decide +kernel
theorem dX12_letter_90 : decode cX12_letter 90 = .ok (.aload_n 0, 1) := by decide +kernel
theorem dX12_letter_91 : decode cX12_letter 91 = .ok (.bipush 42, 2) := by decide +kernel
theorem dX12_letter_93 : decode cX12_letter 93 = .ok (.invokevirtual 125, 3) := by decide +kernel
theorem dX12_letter_96 : decode cX12_letter 96 = .ok (.aload_n 0, 1) := by decide +kernel
theorem dX12_letter_97 : decode cX12_letter 97 = .ok (.aload_n 0, 1) := by decide +kernel
theorem dX12_letter_98 : decode cX12_letter 98 = .ok (.iload_n 2, 1) := by decide +kernel
theorem dX12_letter_99 : decode cX12_letter 99 = .ok (.iconst 3, 1) := by decide +kernel
theorem dX12_letter_100 : decode cX12_letter 100 = .ok (.invokevirtual 128, 3) := by decide +kernel
theorem dX12_letter_103 : decode cX12_letter 103 = .ok (.invokevirtual 132, 3) := by decide +kernel
theorem dX12_letter_106 : decode cX12_letter 106 = .ok (.iinc 2 1, 3) := by decide +kernel
theorem dX12_letter_109 : decode cX12_letter 109 = .ok (.goto (-90), 3) := by decide +kernel
theorem dX12_letter_112 : decode cX12_letter 112 = .ok (.iload_n 1, 1) := by decide +kernel
theorem dX12_letter_113 : decode cX12_letter 113 = .ok (.iconst (-1), 1) := by decide +kernel
theorem dX12_letter_114 : decode cX12_letter 114 = .ok (.if_icmp .ne 10, 3) := by decide +kernel
theorem dX12_letter_117 : decode cX12_letter 117 = .ok (.aload_n 0, 1) := by decide +kernel
theorem dX12_letter_118 : decode cX12_letter 118 = .ok (.getfield 116, 3) := by decide +kernel
theorem dX12_letter_121 : decode cX12_letter 121 = .ok (.goto 20, 3) := by decide +kernel
theorem dX12_letter_124 : decode cX12_letter 124 = .ok (.iload_n 1, 1) := by decide +kernel
theorem dX12_letter_125 : decode cX12_letter 125 = .ok (.aload_n 0, 1) := by decide +kernel
theorem dX12_letter_126 : decode cX12_letter 126 = .ok (.getfield 116, 3) := by decide +kernel
theorem dX12_letter_129 : decode cX12_letter 129 = .ok (.if_icmp .ge 10, 3) := by decide +kernel
theorem dX12_letter_132 : decode cX12_letter 132 = .ok (.aload_n 0, 1) := by decide +kernel
theorem dX12_letter_133 : decode cX12_letter 133 = .ok (.getfield 122, 3) := by decide +kernel
theorem dX12_letter_136 : decode cX12_letter 136 = .ok (.goto 5, 3) := by decide +kernel
theorem dX12_letter_139 : decode cX12_letter 139 = .ok (.bipush (-2), 2) := by decide +kernel
theorem dX12_letter_141 : decode cX12_letter 141 = .ok (.ireturn, 1) := by decide +kernel
theorem dX12_rate_0 : decode cX12_rate 0 = .ok (.iload_n 1, 1) := by decide +kernel
theorem dX12_rate_1 : decode cX12_rate 1 = .ok (.iconst 0, 1) := by decide +kernel
theorem dX12_rate_2 : decode cX12_rate 2 = .ok (.bipush 11, 2) := by decide +kernel
theorem dX12_rate_4 : decode cX12_rate 4 = .ok (.invokestatic 45, 3) := by decide +kernel
theorem dX12_rate_7 : decode cX12_rate 7 = .ok (.ifCond .eq 13, 3) := by decide +kernel
theorem dX12_rate_10 : decode cX12_rate 10 = .ok (.iload_n 2, 1) := by decide +kernel
theorem dX12_rate_11 : decode cX12_rate 11 = .ok (.iconst 0, 1) := by decide +kernel
theorem dX12_rate_12 : decode cX12_rate 12 = .ok (.bipush 12, 2) := by decide +kernel
theorem dX12_rate_14 : decode cX12_rate 14 = .ok (.invokestatic 45, 3) := by decide +kernel
theorem dX12_rate_17 : decode cX12_rate 17 = .ok (.ifCond .ne 5, 3) := by decide +kernel
theorem dX12_rate_20 : decode cX12_rate 20 = .ok (.iconst (-1), 1) := by decide +kernel
theorem dX12_rate_21 : decode cX12_rate 21 = .ok (.ireturn, 1) := by decide +kernel
theorem dX12_rate_22 : decode cX12_rate 22 = .ok (.aload_n 0, 1) := by decide +kernel
theorem dX12_rate_23 : decode cX12_rate 23 = .ok (.getfield 7, 3) := by decide +kernel
theorem dX12_rate_26 : decode cX12_rate 26 = .ok (.sipush 160, 3) := by decide +kernel
theorem dX12_rate_29 : decode cX12_rate 29 = .ok (.iload_n 1, 1) := by decide +kernel
theorem dX12_rate_30 : decode cX12_rate 30 = .ok (.iadd, 1) := by decide +kernel
theorem dX12_rate_31 : decode cX12_rate 31 = .ok (.iaload, 1) := by decide +kernel
theorem dX12_rate_32 : decode cX12_rate 32 = .ok (.istore_n 3, 1) := by decide +kernel
theorem dX12_rate_33 : decode cX12_rate 33 = .ok (.aload_n 0, 1) := by decide +kernel
theorem dX12_rate_34 : decode cX12_rate 34 = .ok (.getfield 7, 3) := by decide +kernel
theorem dX12_rate_37 : decode cX12_rate 37 = .ok (.sipush 160, 3) := by decide +kernel
theorem dX12_rate_40 : decode cX12_rate 40 = .ok (.iload_n 1, 1) := by decide +kernel
theorem dX12_rate_41 : decode cX12_rate 41 = .ok (.iadd, 1) := by decide +kernel
theorem dX12_rate_42 : decode cX12_rate 42 = .ok (.iload_n 2, 1) := by decide +kernel
theorem dX12_rate_43 : decode cX12_rate 43 = .ok (.iastore, 1) := by decide +kernel
theorem dX12_rate_44 : decode cX12_rate 44 = .ok (.iload_n 3, 1) := by decide +kernel
theorem dX12_rate_45 : decode cX12_rate 45 = .ok (.ireturn, 1) := by decide +kernel
theorem dX12_storm_0 : decode cX12_storm 0 = .ok (.iload_n 2, 1) := by decide +kernel
theorem dX12_storm_1 : decode cX12_storm 1 = .ok (.iload_n 3, 1) := by decide +kernel
theorem dX12_storm_2 : decode cX12_storm 2 = .ok (.invokestatic 135, 3) := by decide +kernel
theorem dX12_storm_5 : decode cX12_storm 5 = .ok (.ifCond .eq 14, 3) := by decide +kernel
theorem dX12_storm_8 : decode cX12_storm 8 = .ok (.iload 4, 2) := by decide +kernel
theorem dX12_storm_10 : decode cX12_storm 10 = .ok (.iconst 0, 1) := by decide +kernel
theorem dX12_storm_11 : decode cX12_storm 11 = .ok (.bipush 12, 2) := by decide +kernel
theorem dX12_storm_13 : decode cX12_storm 13 = .ok (.invokestatic 45, 3) := by decide +kernel
theorem dX12_storm_16 : decode cX12_storm 16 = .ok (.ifCond .ne 5, 3) := by decide +kernel
theorem dX12_storm_19 : decode cX12_storm 19 = .ok (.iconst (-1), 1) := by decide +kernel
theorem dX12_storm_20 : decode cX12_storm 20 = .ok (.ireturn, 1) := by decide +kernel
theorem dX12_storm_21 : decode cX12_storm 21 = .ok (.aload_n 0, 1) := by decide +kernel
theorem dX12_storm_22 : decode cX12_storm 22 = .ok (.iload_n 1, 1) := by decide +kernel
theorem dX12_storm_23 : decode cX12_storm 23 = .ok (.ldc 111, 2) := by decide +kernel
theorem dX12_storm_25 : decode cX12_storm 25 = .ok (.iand, 1) := by decide +kernel
theorem dX12_storm_26 : decode cX12_storm 26 = .ok (.putfield 107, 3) := by decide +kernel
theorem dX12_storm_29 : decode cX12_storm 29 = .ok (.iload_n 2, 1) := by decide +kernel
theorem dX12_storm_30 : decode cX12_storm 30 = .ok (.istore 5, 2) := by decide +kernel
theorem dX12_storm_32 : decode cX12_storm 32 = .ok (.iload 5, 2) := by decide +kernel
theorem dX12_storm_34 : decode cX12_storm 34 = .ok (.iload_n 3, 1) := by decide +kernel
theorem dX12_storm_35 : decode cX12_storm 35 = .ok (.if_icmp .gt 28, 3) := by decide +kernel
theorem dX12_storm_38 : decode cX12_storm 38 = .ok (.aload_n 0, 1) := by decide +kernel
theorem dX12_storm_39 : decode cX12_storm 39 = .ok (.getfield 7, 3) := by decide +kernel
theorem dX12_storm_42 : decode cX12_storm 42 = .ok (.sipush 160, 3) := by decide +kernel
theorem dX12_storm_45 : decode cX12_storm 45 = .ok (.iload 5, 2) := by decide +kernel
theorem dX12_storm_47 : decode cX12_storm 47 = .ok (.iadd, 1) := by decide +kernel
theorem dX12_storm_48 : decode cX12_storm 48 = .ok (.aload_n 0, 1) := by decide +kernel
theorem dX12_storm_49 : decode cX12_storm 49 = .ok (.iload 4, 2) := by decide +kernel
theorem dX12_storm_51 : decode cX12_storm 51 = .ok (.iconst 1, 1) := by decide +kernel
theorem dX12_storm_52 : decode cX12_storm 52 = .ok (.iadd, 1) := by decide +kernel
theorem dX12_storm_53 : decode cX12_storm 53 = .ok (.invokevirtual 112, 3) := by decide +kernel
theorem dX12_storm_56 : decode cX12_storm 56 = .ok (.iastore, 1) := by decide +kernel
theorem dX12_storm_57 : decode cX12_storm 57 = .ok (.iinc 5 1, 3) := by decide +kernel
theorem dX12_storm_60 : decode cX12_storm 60 = .ok (.goto (-28), 3) := by decide +kernel
theorem dX12_storm_63 : decode cX12_storm 63 = .ok (.aload_n 0, 1) := by decide +kernel
theorem dX12_storm_64 : decode cX12_storm 64 = .ok (.getfield 107, 3) := by decide +kernel
theorem dX12_storm_67 : decode cX12_storm 67 = .ok (.ireturn, 1) := by decide +kernel
theorem dX12_now_0 : decode cX12_now 0 = .ok (.iload_n 1, 1) := by decide +kernel
theorem dX12_now_1 : decode cX12_now 1 = .ok (.aload_n 0, 1) := by decide +kernel
theorem dX12_now_2 : decode cX12_now 2 = .ok (.getfield 7, 3) := by decide +kernel
theorem dX12_now_5 : decode cX12_now 5 = .ok (.sipush 172, 3) := by decide +kernel
theorem dX12_now_8 : decode cX12_now 8 = .ok (.iaload, 1) := by decide +kernel
theorem dX12_now_9 : decode cX12_now 9 = .ok (.sipush 719, 3) := by decide +kernel
theorem dX12_now_12 : decode cX12_now 12 = .ok (.invokestatic 45, 3) := by decide +kernel
theorem dX12_now_15 : decode cX12_now 15 = .ok (.ifCond .ne 5, 3) := by decide +kernel
theorem dX12_now_18 : decode cX12_now 18 = .ok (.iconst 0, 1) := by decide +kernel
theorem dX12_now_19 : decode cX12_now 19 = .ok (.ireturn, 1) := by decide +kernel
theorem dX12_now_20 : decode cX12_now 20 = .ok (.aload_n 0, 1) := by decide +kernel
theorem dX12_now_21 : decode cX12_now 21 = .ok (.getfield 7, 3) := by decide +kernel
theorem dX12_now_24 : decode cX12_now 24 = .ok (.sipush 172, 3) := by decide +kernel
theorem dX12_now_27 : decode cX12_now 27 = .ok (.iload_n 1, 1) := by decide +kernel
theorem dX12_now_28 : decode cX12_now 28 = .ok (.iastore, 1) := by decide +kernel
theorem dX12_now_29 : decode cX12_now 29 = .ok (.iconst 1, 1) := by decide +kernel
theorem dX12_now_30 : decode cX12_now 30 = .ok (.ireturn, 1) := by decide +kernel
theorem dX12_isSlot_0 : decode cX12_isSlot 0 = .ok (.iload_n 1, 1) := by decide +kernel
theorem dX12_isSlot_1 : decode cX12_isSlot 1 = .ok (.sipush 720, 3) := by decide +kernel
theorem dX12_isSlot_4 : decode cX12_isSlot 4 = .ok (.if_icmp .lt 22, 3) := by decide +kernel
theorem dX12_isSlot_7 : decode cX12_isSlot 7 = .ok (.iload_n 1, 1) := by decide +kernel
theorem dX12_isSlot_8 : decode cX12_isSlot 8 = .ok (.sipush 1200, 3) := by decide +kernel
theorem dX12_isSlot_11 : decode cX12_isSlot 11 = .ok (.if_icmp .ge 13, 3) := by decide +kernel
theorem dX12_isSlot_14 : decode cX12_isSlot 14 = .ok (.iload_n 1, 1) := by decide +kernel
theorem dX12_isSlot_15 : decode cX12_isSlot 15 = .ok (.iconst 5, 1) := by decide +kernel
theorem dX12_isSlot_16 : decode cX12_isSlot 16 = .ok (.irem, 1) := by decide +kernel
theorem dX12_isSlot_17 : decode cX12_isSlot 17 = .ok (.ifCond .ne 7, 3) := by decide +kernel
theorem dX12_isSlot_20 : decode cX12_isSlot 20 = .ok (.iconst 1, 1) := by decide +kernel
theorem dX12_isSlot_21 : decode cX12_isSlot 21 = .ok (.goto 4, 3) := by decide +kernel
theorem dX12_isSlot_24 : decode cX12_isSlot 24 = .ok (.iconst 0, 1) := by decide +kernel
theorem dX12_isSlot_25 : decode cX12_isSlot 25 = .ok (.ireturn, 1) := by decide +kernel
theorem dX12_isSlot_26 : decode cX12_isSlot 26 = .ok (.aload_n 0, 1) := by decide +kernel
theorem dX12_isSlot_27 : decode cX12_isSlot 27 = .ok (.getfield 7, 3) := by decide +kernel
theorem dX12_isSlot_30 : decode cX12_isSlot 30 = .ok (.sipush 160, 3) := by decide +kernel
theorem dX12_isSlot_33 : decode cX12_isSlot 33 = .ok (.iload_n 1, 1) := by decide +kernel
theorem dX12_isSlot_34 : decode cX12_isSlot 34 = .ok (.bipush 60, 2) := by decide +kernel
theorem dX12_isSlot_36 : decode cX12_isSlot 36 = .ok (.idiv, 1) := by decide +kernel
theorem dX12_isSlot_37 : decode cX12_isSlot 37 = .ok (.iadd, 1) := by decide +kernel
theorem dX12_isSlot_38 : decode cX12_isSlot 38 = .ok (.iaload, 1) := by decide +kernel
theorem dX12_isSlot_39 : decode cX12_isSlot 39 = .ok (.istore_n 2, 1) := by decide +kernel
theorem dX12_isSlot_40 : decode cX12_isSlot 40 = .ok (.iload_n 1, 1) := by decide +kernel
theorem dX12_isSlot_41 : decode cX12_isSlot 41 = .ok (.bipush 60, 2) := by decide +kernel
theorem dX12_isSlot_43 : decode cX12_isSlot 43 = .ok (.irem, 1) := by decide +kernel
theorem dX12_isSlot_44 : decode cX12_isSlot 44 = .ok (.istore_n 3, 1) := by decide +kernel
theorem dX12_isSlot_45 : decode cX12_isSlot 45 = .ok (.iload_n 2, 1) := by decide +kernel
theorem dX12_isSlot_46 : decode cX12_isSlot 46 = .ok (.ifCond .le 38, 3) := by decide +kernel
theorem dX12_isSlot_49 : decode cX12_isSlot 49 = .ok (.iload_n 3, 1) := by decide +kernel
theorem dX12_isSlot_50 : decode cX12_isSlot 50 = .ok (.iload_n 2, 1) := by decide +kernel
theorem dX12_isSlot_51 : decode cX12_isSlot 51 = .ok (.imul, 1) := by decide +kernel
theorem dX12_isSlot_52 : decode cX12_isSlot 52 = .ok (.bipush 59, 2) := by decide +kernel
theorem dX12_isSlot_54 : decode cX12_isSlot 54 = .ok (.iadd, 1) := by decide +kernel
theorem dX12_isSlot_55 : decode cX12_isSlot 55 = .ok (.bipush 60, 2) := by decide +kernel
theorem dX12_isSlot_57 : decode cX12_isSlot 57 = .ok (.idiv, 1) := by decide +kernel
theorem dX12_isSlot_58 : decode cX12_isSlot 58 = .ok (.iload_n 2, 1) := by decide +kernel
theorem dX12_isSlot_59 : decode cX12_isSlot 59 = .ok (.if_icmp .ge 25, 3) := by decide +kernel
theorem dX12_isSlot_62 : decode cX12_isSlot 62 = .ok (.bipush 60, 2) := by decide +kernel
theorem dX12_isSlot_64 : decode cX12_isSlot 64 = .ok (.iload_n 3, 1) := by decide +kernel
theorem dX12_isSlot_65 : decode cX12_isSlot 65 = .ok (.iload_n 2, 1) := by decide +kernel
theorem dX12_isSlot_66 : decode cX12_isSlot 66 = .ok (.imul, 1) := by decide +kernel
theorem dX12_isSlot_67 : decode cX12_isSlot 67 = .ok (.bipush 59, 2) := by decide +kernel
theorem dX12_isSlot_69 : decode cX12_isSlot 69 = .ok (.iadd, 1) := by decide +kernel
theorem dX12_isSlot_70 : decode cX12_isSlot 70 = .ok (.bipush 60, 2) := by decide +kernel
theorem dX12_isSlot_72 : decode cX12_isSlot 72 = .ok (.idiv, 1) := by decide +kernel
theorem dX12_isSlot_73 : decode cX12_isSlot 73 = .ok (.imul, 1) := by decide +kernel
theorem dX12_isSlot_74 : decode cX12_isSlot 74 = .ok (.iload_n 2, 1) := by decide +kernel
theorem dX12_isSlot_75 : decode cX12_isSlot 75 = .ok (.idiv, 1) := by decide +kernel
theorem dX12_isSlot_76 : decode cX12_isSlot 76 = .ok (.iload_n 3, 1) := by decide +kernel
theorem dX12_isSlot_77 : decode cX12_isSlot 77 = .ok (.if_icmp .ne 7, 3) := by decide +kernel
theorem dX12_isSlot_80 : decode cX12_isSlot 80 = .ok (.iconst 1, 1) := by decide +kernel
theorem dX12_isSlot_81 : decode cX12_isSlot 81 = .ok (.goto 4, 3) := by decide +kernel
theorem dX12_isSlot_84 : decode cX12_isSlot 84 = .ok (.iconst 0, 1) := by decide +kernel
theorem dX12_isSlot_85 : decode cX12_isSlot 85 = .ok (.ireturn, 1) := by decide +kernel
theorem dX12_slot_0 : decode cX12_slot 0 = .ok (.iload_n 1, 1) := by decide +kernel
theorem dX12_slot_1 : decode cX12_slot 1 = .ok (.ifCond .ge 5, 3) := by decide +kernel
theorem dX12_slot_4 : decode cX12_slot 4 = .ok (.iconst (-1), 1) := by decide +kernel
theorem dX12_slot_5 : decode cX12_slot 5 = .ok (.ireturn, 1) := by decide +kernel
theorem dX12_slot_6 : decode cX12_slot 6 = .ok (.iload_n 1, 1) := by decide +kernel
theorem dX12_slot_7 : decode cX12_slot 7 = .ok (.istore_n 2, 1) := by decide +kernel
theorem dX12_slot_8 : decode cX12_slot 8 = .ok (.iconst 0, 1) := by decide +kernel
theorem dX12_slot_9 : decode cX12_slot 9 = .ok (.istore_n 3, 1) := by decide +kernel
theorem dX12_slot_10 : decode cX12_slot 10 = .ok (.iload_n 3, 1) := by decide +kernel
theorem dX12_slot_11 : decode cX12_slot 11 = .ok (.sipush 1200, 3) := by decide +kernel
theorem dX12_slot_14 : decode cX12_slot 14 = .ok (.if_icmp .ge 30, 3) := by decide +kernel
theorem dX12_slot_17 : decode cX12_slot 17 = .ok (.aload_n 0, 1) := by decide +kernel
theorem dX12_slot_18 : decode cX12_slot 18 = .ok (.iload_n 3, 1) := by decide +kernel
theorem dX12_slot_19 : decode cX12_slot 19 = .ok (.invokevirtual 138, 3) := by decide +kernel
theorem dX12_slot_22 : decode cX12_slot 22 = .ok (.ifCond .ne 6, 3) := by decide +kernel
theorem dX12_slot_25 : decode cX12_slot 25 = .ok (.goto 13, 3) := by decide +kernel
theorem dX12_slot_28 : decode cX12_slot 28 = .ok (.iload_n 2, 1) := by decide +kernel
theorem dX12_slot_29 : decode cX12_slot 29 = .ok (.ifCond .ne 5, 3) := by decide +kernel
theorem dX12_slot_32 : decode cX12_slot 32 = .ok (.iload_n 3, 1) := by decide +kernel
theorem dX12_slot_33 : decode cX12_slot 33 = .ok (.ireturn, 1) := by decide +kernel
theorem dX12_slot_34 : decode cX12_slot 34 = .ok (.iload_n 2, 1) := by decide +kernel
theorem dX12_slot_35 : decode cX12_slot 35 = .ok (.iconst 1, 1) := by decide +kernel
theorem dX12_slot_36 : decode cX12_slot 36 = .ok (.isub, 1) := by decide +kernel
theorem dX12_slot_37 : decode cX12_slot 37 = .ok (.istore_n 2, 1) := by decide +kernel
theorem dX12_slot_38 : decode cX12_slot 38 = .ok (.iinc 3 1, 3) := by decide +kernel
theorem dX12_slot_41 : decode cX12_slot 41 = .ok (.goto (-31), 3) := by decide +kernel
theorem dX12_slot_44 : decode cX12_slot 44 = .ok (.bipush (-2), 2) := by decide +kernel
theorem dX12_slot_46 : decode cX12_slot 46 = .ok (.ireturn, 1) := by decide +kernel
theorem dX12_isPlanned_0 : decode cX12_isPlanned 0 = .ok (.aload_n 0, 1) := by decide +kernel
theorem dX12_isPlanned_1 : decode cX12_isPlanned 1 = .ok (.iload_n 1, 1) := by decide +kernel
theorem dX12_isPlanned_2 : decode cX12_isPlanned 2 = .ok (.iconst 4, 1) := by decide +kernel
theorem dX12_isPlanned_3 : decode cX12_isPlanned 3 = .ok (.invokevirtual 128, 3) := by decide +kernel
theorem dX12_isPlanned_6 : decode cX12_isPlanned 6 = .ok (.ifCond .lt 17, 3) := by decide +kernel
theorem dX12_isPlanned_9 : decode cX12_isPlanned 9 = .ok (.aload_n 0, 1) := by decide +kernel
theorem dX12_isPlanned_10 : decode cX12_isPlanned 10 = .ok (.iload_n 1, 1) := by decide +kernel
theorem dX12_isPlanned_11 : decode cX12_isPlanned 11 = .ok (.bipush 7, 2) := by decide +kernel
theorem dX12_isPlanned_13 : decode cX12_isPlanned 13 = .ok (.invokevirtual 128, 3) := by decide +kernel
theorem dX12_isPlanned_16 : decode cX12_isPlanned 16 = .ok (.ifCond .ne 7, 3) := by decide +kernel
theorem dX12_isPlanned_19 : decode cX12_isPlanned 19 = .ok (.iconst 1, 1) := by decide +kernel
theorem dX12_isPlanned_20 : decode cX12_isPlanned 20 = .ok (.goto 4, 3) := by decide +kernel
theorem dX12_isPlanned_23 : decode cX12_isPlanned 23 = .ok (.iconst 0, 1) := by decide +kernel
theorem dX12_isPlanned_24 : decode cX12_isPlanned 24 = .ok (.ireturn, 1) := by decide +kernel
theorem dX12_offOf_0 : decode cX12_offOf 0 = .ok (.aload_n 0, 1) := by decide +kernel
theorem dX12_offOf_1 : decode cX12_offOf 1 = .ok (.iload_n 1, 1) := by decide +kernel
theorem dX12_offOf_2 : decode cX12_offOf 2 = .ok (.iconst 1, 1) := by decide +kernel
theorem dX12_offOf_3 : decode cX12_offOf 3 = .ok (.invokevirtual 128, 3) := by decide +kernel
theorem dX12_offOf_6 : decode cX12_offOf 6 = .ok (.aload_n 0, 1) := by decide +kernel
theorem dX12_offOf_7 : decode cX12_offOf 7 = .ok (.iload_n 1, 1) := by decide +kernel
theorem dX12_offOf_8 : decode cX12_offOf 8 = .ok (.iconst 2, 1) := by decide +kernel
theorem dX12_offOf_9 : decode cX12_offOf 9 = .ok (.invokevirtual 128, 3) := by decide +kernel
theorem dX12_offOf_12 : decode cX12_offOf 12 = .ok (.isub, 1) := by decide +kernel
theorem dX12_offOf_13 : decode cX12_offOf 13 = .ok (.ireturn, 1) := by decide +kernel
theorem dX12_earliest_0 : decode cX12_earliest 0 = .ok (.aload_n 0, 1) := by decide +kernel
theorem dX12_earliest_1 : decode cX12_earliest 1 = .ok (.iload_n 1, 1) := by decide +kernel
theorem dX12_earliest_2 : decode cX12_earliest 2 = .ok (.iconst 1, 1) := by decide +kernel
theorem dX12_earliest_3 : decode cX12_earliest 3 = .ok (.invokevirtual 128, 3) := by decide +kernel
theorem dX12_earliest_6 : decode cX12_earliest 6 = .ok (.aload_n 0, 1) := by decide +kernel
theorem dX12_earliest_7 : decode cX12_earliest 7 = .ok (.getfield 7, 3) := by decide +kernel
theorem dX12_earliest_10 : decode cX12_earliest 10 = .ok (.sipush 172, 3) := by decide +kernel
theorem dX12_earliest_13 : decode cX12_earliest 13 = .ok (.iaload, 1) := by decide +kernel
theorem dX12_earliest_14 : decode cX12_earliest 14 = .ok (.aload_n 0, 1) := by decide +kernel
theorem dX12_earliest_15 : decode cX12_earliest 15 = .ok (.iload_n 1, 1) := by decide +kernel
theorem dX12_earliest_16 : decode cX12_earliest 16 = .ok (.iconst 2, 1) := by decide +kernel
theorem dX12_earliest_17 : decode cX12_earliest 17 = .ok (.invokevirtual 128, 3) := by decide +kernel
theorem dX12_earliest_20 : decode cX12_earliest 20 = .ok (.iadd, 1) := by decide +kernel
theorem dX12_earliest_21 : decode cX12_earliest 21 = .ok (.invokestatic 141, 3) := by decide +kernel
theorem dX12_earliest_24 : decode cX12_earliest 24 = .ok (.ireturn, 1) := by decide +kernel
theorem dX12_isAir_0 : decode cX12_isAir 0 = .ok (.aload_n 0, 1) := by decide +kernel
theorem dX12_isAir_1 : decode cX12_isAir 1 = .ok (.iload_n 1, 1) := by decide +kernel
theorem dX12_isAir_2 : decode cX12_isAir 2 = .ok (.invokevirtual 144, 3) := by decide +kernel
theorem dX12_isAir_5 : decode cX12_isAir 5 = .ok (.ifCond .eq 30, 3) := by decide +kernel
theorem dX12_isAir_8 : decode cX12_isAir 8 = .ok (.aload_n 0, 1) := by decide +kernel
theorem dX12_isAir_9 : decode cX12_isAir 9 = .ok (.iload_n 1, 1) := by decide +kernel
theorem dX12_isAir_10 : decode cX12_isAir 10 = .ok (.invokevirtual 147, 3) := by decide +kernel
theorem dX12_isAir_13 : decode cX12_isAir 13 = .ok (.aload_n 0, 1) := by decide +kernel
theorem dX12_isAir_14 : decode cX12_isAir 14 = .ok (.iload_n 1, 1) := by decide +kernel
theorem dX12_isAir_15 : decode cX12_isAir 15 = .ok (.iconst 5, 1) := by decide +kernel
theorem dX12_isAir_16 : decode cX12_isAir 16 = .ok (.invokevirtual 128, 3) := by decide +kernel
theorem dX12_isAir_19 : decode cX12_isAir 19 = .ok (.iadd, 1) := by decide +kernel
theorem dX12_isAir_20 : decode cX12_isAir 20 = .ok (.aload_n 0, 1) := by decide +kernel
theorem dX12_isAir_21 : decode cX12_isAir 21 = .ok (.getfield 7, 3) := by decide +kernel
theorem dX12_isAir_24 : decode cX12_isAir 24 = .ok (.sipush 172, 3) := by decide +kernel
theorem dX12_isAir_27 : decode cX12_isAir 27 = .ok (.iaload, 1) := by decide +kernel
theorem dX12_isAir_28 : decode cX12_isAir 28 = .ok (.if_icmp .gt 7, 3) := by decide +kernel
theorem dX12_isAir_31 : decode cX12_isAir 31 = .ok (.iconst 1, 1) := by decide +kernel
theorem dX12_isAir_32 : decode cX12_isAir 32 = .ok (.goto 4, 3) := by decide +kernel
theorem dX12_isAir_35 : decode cX12_isAir 35 = .ok (.iconst 0, 1) := by decide +kernel
theorem dX12_isAir_36 : decode cX12_isAir 36 = .ok (.ireturn, 1) := by decide +kernel
theorem dX12_isGround_0 : decode cX12_isGround 0 = .ok (.aload_n 0, 1) := by decide +kernel
theorem dX12_isGround_1 : decode cX12_isGround 1 = .ok (.iload_n 1, 1) := by decide +kernel
theorem dX12_isGround_2 : decode cX12_isGround 2 = .ok (.invokevirtual 144, 3) := by decide +kernel
theorem dX12_isGround_5 : decode cX12_isGround 5 = .ok (.ifCond .eq 15, 3) := by decide +kernel
theorem dX12_isGround_8 : decode cX12_isGround 8 = .ok (.aload_n 0, 1) := by decide +kernel
theorem dX12_isGround_9 : decode cX12_isGround 9 = .ok (.iload_n 1, 1) := by decide +kernel
theorem dX12_isGround_10 : decode cX12_isGround 10 = .ok (.invokevirtual 150, 3) := by decide +kernel
theorem dX12_isGround_13 : decode cX12_isGround 13 = .ok (.ifCond .ne 7, 3) := by decide +kernel
theorem dX12_isGround_16 : decode cX12_isGround 16 = .ok (.iconst 1, 1) := by decide +kernel
theorem dX12_isGround_17 : decode cX12_isGround 17 = .ok (.goto 4, 3) := by decide +kernel
theorem dX12_isGround_20 : decode cX12_isGround 20 = .ok (.iconst 0, 1) := by decide +kernel
theorem dX12_isGround_21 : decode cX12_isGround 21 = .ok (.ireturn, 1) := by decide +kernel
theorem dX12_waits_0 : decode cX12_waits 0 = .ok (.aload_n 0, 1) := by decide +kernel
theorem dX12_waits_1 : decode cX12_waits 1 = .ok (.iload_n 1, 1) := by decide +kernel
theorem dX12_waits_2 : decode cX12_waits 2 = .ok (.invokevirtual 144, 3) := by decide +kernel
theorem dX12_waits_5 : decode cX12_waits 5 = .ok (.ifCond .eq 20, 3) := by decide +kernel
theorem dX12_waits_8 : decode cX12_waits 8 = .ok (.aload_n 0, 1) := by decide +kernel
theorem dX12_waits_9 : decode cX12_waits 9 = .ok (.iload_n 1, 1) := by decide +kernel
theorem dX12_waits_10 : decode cX12_waits 10 = .ok (.iconst 5, 1) := by decide +kernel
theorem dX12_waits_11 : decode cX12_waits 11 = .ok (.invokevirtual 128, 3) := by decide +kernel
theorem dX12_waits_14 : decode cX12_waits 14 = .ok (.aload_n 0, 1) := by decide +kernel
theorem dX12_waits_15 : decode cX12_waits 15 = .ok (.iload_n 1, 1) := by decide +kernel
theorem dX12_waits_16 : decode cX12_waits 16 = .ok (.bipush 6, 2) := by decide +kernel
theorem dX12_waits_18 : decode cX12_waits 18 = .ok (.invokevirtual 128, 3) := by decide +kernel
theorem dX12_waits_21 : decode cX12_waits 21 = .ok (.iadd, 1) := by decide +kernel
theorem dX12_waits_22 : decode cX12_waits 22 = .ok (.goto 4, 3) := by decide +kernel
theorem dX12_waits_25 : decode cX12_waits 25 = .ok (.iconst 0, 1) := by decide +kernel
theorem dX12_waits_26 : decode cX12_waits 26 = .ok (.ireturn, 1) := by decide +kernel
theorem dX12_cost_0 : decode cX12_cost 0 = .ok (.aload_n 0, 1) := by decide +kernel
theorem dX12_cost_1 : decode cX12_cost 1 = .ok (.iload_n 1, 1) := by decide +kernel
theorem dX12_cost_2 : decode cX12_cost 2 = .ok (.invokevirtual 144, 3) := by decide +kernel
theorem dX12_cost_5 : decode cX12_cost 5 = .ok (.ifCond .eq 29, 3) := by decide +kernel
theorem dX12_cost_8 : decode cX12_cost 8 = .ok (.aload_n 0, 1) := by decide +kernel
theorem dX12_cost_9 : decode cX12_cost 9 = .ok (.iload_n 1, 1) := by decide +kernel
theorem dX12_cost_10 : decode cX12_cost 10 = .ok (.iconst 3, 1) := by decide +kernel
theorem dX12_cost_11 : decode cX12_cost 11 = .ok (.invokevirtual 128, 3) := by decide +kernel
theorem dX12_cost_14 : decode cX12_cost 14 = .ok (.aload_n 0, 1) := by decide +kernel
theorem dX12_cost_15 : decode cX12_cost 15 = .ok (.iload_n 1, 1) := by decide +kernel
theorem dX12_cost_16 : decode cX12_cost 16 = .ok (.iconst 5, 1) := by decide +kernel
theorem dX12_cost_17 : decode cX12_cost 17 = .ok (.invokevirtual 128, 3) := by decide +kernel
theorem dX12_cost_20 : decode cX12_cost 20 = .ok (.iconst 3, 1) := by decide +kernel
theorem dX12_cost_21 : decode cX12_cost 21 = .ok (.aload_n 0, 1) := by decide +kernel
theorem dX12_cost_22 : decode cX12_cost 22 = .ok (.iload_n 1, 1) := by decide +kernel
theorem dX12_cost_23 : decode cX12_cost 23 = .ok (.bipush 6, 2) := by decide +kernel
theorem dX12_cost_25 : decode cX12_cost 25 = .ok (.invokevirtual 128, 3) := by decide +kernel
theorem dX12_cost_28 : decode cX12_cost 28 = .ok (.imul, 1) := by decide +kernel
theorem dX12_cost_29 : decode cX12_cost 29 = .ok (.iadd, 1) := by decide +kernel
theorem dX12_cost_30 : decode cX12_cost 30 = .ok (.imul, 1) := by decide +kernel
theorem dX12_cost_31 : decode cX12_cost 31 = .ok (.goto 4, 3) := by decide +kernel
theorem dX12_cost_34 : decode cX12_cost 34 = .ok (.iconst 0, 1) := by decide +kernel
theorem dX12_cost_35 : decode cX12_cost 35 = .ok (.ireturn, 1) := by decide +kernel
theorem dX12_gives_0 : decode cX12_gives 0 = .ok (.aload_n 0, 1) := by decide +kernel
theorem dX12_gives_1 : decode cX12_gives 1 = .ok (.iload_n 1, 1) := by decide +kernel
theorem dX12_gives_2 : decode cX12_gives 2 = .ok (.iconst 4, 1) := by decide +kernel
theorem dX12_gives_3 : decode cX12_gives 3 = .ok (.iload_n 2, 1) := by decide +kernel
theorem dX12_gives_4 : decode cX12_gives 4 = .ok (.invokevirtual 90, 3) := by decide +kernel
theorem dX12_gives_7 : decode cX12_gives 7 = .ok (.aload_n 0, 1) := by decide +kernel
theorem dX12_gives_8 : decode cX12_gives 8 = .ok (.iload_n 1, 1) := by decide +kernel
theorem dX12_gives_9 : decode cX12_gives 9 = .ok (.iconst 5, 1) := by decide +kernel
theorem dX12_gives_10 : decode cX12_gives 10 = .ok (.iload_n 2, 1) := by decide +kernel
theorem dX12_gives_11 : decode cX12_gives 11 = .ok (.aload_n 0, 1) := by decide +kernel
theorem dX12_gives_12 : decode cX12_gives 12 = .ok (.iload_n 1, 1) := by decide +kernel
theorem dX12_gives_13 : decode cX12_gives 13 = .ok (.iconst 1, 1) := by decide +kernel
theorem dX12_gives_14 : decode cX12_gives 14 = .ok (.invokevirtual 128, 3) := by decide +kernel
theorem dX12_gives_17 : decode cX12_gives 17 = .ok (.isub, 1) := by decide +kernel
theorem dX12_gives_18 : decode cX12_gives 18 = .ok (.invokevirtual 90, 3) := by decide +kernel
theorem dX12_gives_21 : decode cX12_gives 21 = .ok (.aload_n 0, 1) := by decide +kernel
theorem dX12_gives_22 : decode cX12_gives 22 = .ok (.iload_n 1, 1) := by decide +kernel
theorem dX12_gives_23 : decode cX12_gives 23 = .ok (.bipush 6, 2) := by decide +kernel
theorem dX12_gives_25 : decode cX12_gives 25 = .ok (.iconst 0, 1) := by decide +kernel
theorem dX12_gives_26 : decode cX12_gives 26 = .ok (.invokevirtual 90, 3) := by decide +kernel
theorem dX12_gives_29 : decode cX12_gives 29 = .ok (.return_, 1) := by decide +kernel
theorem dX12_told_0 : decode cX12_told 0 = .ok (.aload_n 0, 1) := by decide +kernel
theorem dX12_told_1 : decode cX12_told 1 = .ok (.iload_n 1, 1) := by decide +kernel
theorem dX12_told_2 : decode cX12_told 2 = .ok (.invokevirtual 153, 3) := by decide +kernel
theorem dX12_told_5 : decode cX12_told 5 = .ok (.ifCond .eq 13, 3) := by decide +kernel
theorem dX12_told_8 : decode cX12_told 8 = .ok (.iload_n 2, 1) := by decide +kernel
theorem dX12_told_9 : decode cX12_told 9 = .ok (.iconst 0, 1) := by decide +kernel
theorem dX12_told_10 : decode cX12_told 10 = .ok (.bipush 10, 2) := by decide +kernel
theorem dX12_told_12 : decode cX12_told 12 = .ok (.invokestatic 45, 3) := by decide +kernel
theorem dX12_told_15 : decode cX12_told 15 = .ok (.ifCond .ne 5, 3) := by decide +kernel
theorem dX12_told_18 : decode cX12_told 18 = .ok (.iconst (-1), 1) := by decide +kernel
theorem dX12_told_19 : decode cX12_told 19 = .ok (.ireturn, 1) := by decide +kernel
theorem dX12_told_20 : decode cX12_told 20 = .ok (.aload_n 0, 1) := by decide +kernel
theorem dX12_told_21 : decode cX12_told 21 = .ok (.iload_n 1, 1) := by decide +kernel
theorem dX12_told_22 : decode cX12_told 22 = .ok (.invokevirtual 144, 3) := by decide +kernel
theorem dX12_told_25 : decode cX12_told 25 = .ok (.istore_n 3, 1) := by decide +kernel
theorem dX12_told_26 : decode cX12_told 26 = .ok (.iload_n 2, 1) := by decide +kernel
theorem dX12_told_27 : decode cX12_told 27 = .ok (.tableswitch 158 0 9 #[53, 60, 67, 74, 81, 87, 103, 119, 136, 150], 53) := by decide +kernel
theorem dX12_told_80 : decode cX12_told 80 = .ok (.aload_n 0, 1) := by decide +kernel
theorem dX12_told_81 : decode cX12_told 81 = .ok (.iload_n 1, 1) := by decide +kernel
theorem dX12_told_82 : decode cX12_told 82 = .ok (.iconst 0, 1) := by decide +kernel
theorem dX12_told_83 : decode cX12_told 83 = .ok (.invokevirtual 128, 3) := by decide +kernel
theorem dX12_told_86 : decode cX12_told 86 = .ok (.ireturn, 1) := by decide +kernel
theorem dX12_told_87 : decode cX12_told 87 = .ok (.aload_n 0, 1) := by decide +kernel
theorem dX12_told_88 : decode cX12_told 88 = .ok (.iload_n 1, 1) := by decide +kernel
theorem dX12_told_89 : decode cX12_told 89 = .ok (.iconst 1, 1) := by decide +kernel
theorem dX12_told_90 : decode cX12_told 90 = .ok (.invokevirtual 128, 3) := by decide +kernel
theorem dX12_told_93 : decode cX12_told 93 = .ok (.ireturn, 1) := by decide +kernel
theorem dX12_told_94 : decode cX12_told 94 = .ok (.aload_n 0, 1) := by decide +kernel
theorem dX12_told_95 : decode cX12_told 95 = .ok (.iload_n 1, 1) := by decide +kernel
theorem dX12_told_96 : decode cX12_told 96 = .ok (.iconst 2, 1) := by decide +kernel
theorem dX12_told_97 : decode cX12_told 97 = .ok (.invokevirtual 128, 3) := by decide +kernel
theorem dX12_told_100 : decode cX12_told 100 = .ok (.ireturn, 1) := by decide +kernel
theorem dX12_told_101 : decode cX12_told 101 = .ok (.aload_n 0, 1) := by decide +kernel
theorem dX12_told_102 : decode cX12_told 102 = .ok (.iload_n 1, 1) := by decide +kernel
theorem dX12_told_103 : decode cX12_told 103 = .ok (.iconst 3, 1) := by decide +kernel
theorem dX12_told_104 : decode cX12_told 104 = .ok (.invokevirtual 128, 3) := by decide +kernel
theorem dX12_told_107 : decode cX12_told 107 = .ok (.ireturn, 1) := by decide +kernel
theorem dX12_told_108 : decode cX12_told 108 = .ok (.aload_n 0, 1) := by decide +kernel
theorem dX12_told_109 : decode cX12_told 109 = .ok (.iload_n 1, 1) := by decide +kernel
theorem dX12_told_110 : decode cX12_told 110 = .ok (.invokevirtual 156, 3) := by decide +kernel
theorem dX12_told_113 : decode cX12_told 113 = .ok (.ireturn, 1) := by decide +kernel
theorem dX12_told_114 : decode cX12_told 114 = .ok (.iload_n 3, 1) := by decide +kernel
theorem dX12_told_115 : decode cX12_told 115 = .ok (.ifCond .eq 12, 3) := by decide +kernel
theorem dX12_told_118 : decode cX12_told 118 = .ok (.aload_n 0, 1) := by decide +kernel
theorem dX12_told_119 : decode cX12_told 119 = .ok (.iload_n 1, 1) := by decide +kernel
theorem dX12_told_120 : decode cX12_told 120 = .ok (.iconst 4, 1) := by decide +kernel
theorem dX12_told_121 : decode cX12_told 121 = .ok (.invokevirtual 128, 3) := by decide +kernel
theorem dX12_told_124 : decode cX12_told 124 = .ok (.goto 5, 3) := by decide +kernel
theorem dX12_told_127 : decode cX12_told 127 = .ok (.bipush (-2), 2) := by decide +kernel
theorem dX12_told_129 : decode cX12_told 129 = .ok (.ireturn, 1) := by decide +kernel
theorem dX12_told_130 : decode cX12_told 130 = .ok (.iload_n 3, 1) := by decide +kernel
theorem dX12_told_131 : decode cX12_told 131 = .ok (.ifCond .eq 12, 3) := by decide +kernel
theorem dX12_told_134 : decode cX12_told 134 = .ok (.aload_n 0, 1) := by decide +kernel
theorem dX12_told_135 : decode cX12_told 135 = .ok (.iload_n 1, 1) := by decide +kernel
theorem dX12_told_136 : decode cX12_told 136 = .ok (.iconst 5, 1) := by decide +kernel
theorem dX12_told_137 : decode cX12_told 137 = .ok (.invokevirtual 128, 3) := by decide +kernel
theorem dX12_told_140 : decode cX12_told 140 = .ok (.goto 5, 3) := by decide +kernel
theorem dX12_told_143 : decode cX12_told 143 = .ok (.bipush (-2), 2) := by decide +kernel
theorem dX12_told_145 : decode cX12_told 145 = .ok (.ireturn, 1) := by decide +kernel
theorem dX12_told_146 : decode cX12_told 146 = .ok (.iload_n 3, 1) := by decide +kernel
theorem dX12_told_147 : decode cX12_told 147 = .ok (.ifCond .eq 13, 3) := by decide +kernel
theorem dX12_told_150 : decode cX12_told 150 = .ok (.aload_n 0, 1) := by decide +kernel
theorem dX12_told_151 : decode cX12_told 151 = .ok (.iload_n 1, 1) := by decide +kernel
theorem dX12_told_152 : decode cX12_told 152 = .ok (.bipush 6, 2) := by decide +kernel
theorem dX12_told_154 : decode cX12_told 154 = .ok (.invokevirtual 128, 3) := by decide +kernel
theorem dX12_told_157 : decode cX12_told 157 = .ok (.goto 5, 3) := by decide +kernel
theorem dX12_told_160 : decode cX12_told 160 = .ok (.bipush (-2), 2) := by decide +kernel
theorem dX12_told_162 : decode cX12_told 162 = .ok (.ireturn, 1) := by decide +kernel
theorem dX12_told_163 : decode cX12_told 163 = .ok (.aload_n 0, 1) := by decide +kernel
theorem dX12_told_164 : decode cX12_told 164 = .ok (.iload_n 1, 1) := by decide +kernel
theorem dX12_told_165 : decode cX12_told 165 = .ok (.invokevirtual 150, 3) := by decide +kernel
theorem dX12_told_168 : decode cX12_told 168 = .ok (.ifCond .eq 7, 3) := by decide +kernel
theorem dX12_told_171 : decode cX12_told 171 = .ok (.iconst 1, 1) := by decide +kernel
theorem dX12_told_172 : decode cX12_told 172 = .ok (.goto 4, 3) := by decide +kernel
theorem dX12_told_175 : decode cX12_told 175 = .ok (.iconst 0, 1) := by decide +kernel
theorem dX12_told_176 : decode cX12_told 176 = .ok (.ireturn, 1) := by decide +kernel
theorem dX12_told_177 : decode cX12_told 177 = .ok (.aload_n 0, 1) := by decide +kernel
theorem dX12_told_178 : decode cX12_told 178 = .ok (.iload_n 1, 1) := by decide +kernel
theorem dX12_told_179 : decode cX12_told 179 = .ok (.bipush 7, 2) := by decide +kernel
theorem dX12_told_181 : decode cX12_told 181 = .ok (.invokevirtual 128, 3) := by decide +kernel
theorem dX12_told_184 : decode cX12_told 184 = .ok (.ireturn, 1) := by decide +kernel
theorem dX12_told_185 : decode cX12_told 185 = .ok (.iload_n 3, 1) := by decide +kernel
theorem dX12_told_186 : decode cX12_told 186 = .ok (.ifCond .eq 11, 3) := by decide +kernel
theorem dX12_told_189 : decode cX12_told 189 = .ok (.aload_n 0, 1) := by decide +kernel
theorem dX12_told_190 : decode cX12_told 190 = .ok (.iload_n 1, 1) := by decide +kernel
theorem dX12_told_191 : decode cX12_told 191 = .ok (.invokevirtual 159, 3) := by decide +kernel
theorem dX12_told_194 : decode cX12_told 194 = .ok (.goto 5, 3) := by decide +kernel
theorem dX12_told_197 : decode cX12_told 197 = .ok (.bipush (-2), 2) := by decide +kernel
theorem dX12_told_199 : decode cX12_told 199 = .ok (.ireturn, 1) := by decide +kernel
theorem dX12_flightAt_0 : decode cX12_flightAt 0 = .ok (.iconst 0, 1) := by decide +kernel
theorem dX12_flightAt_1 : decode cX12_flightAt 1 = .ok (.istore_n 2, 1) := by decide +kernel
theorem dX12_flightAt_2 : decode cX12_flightAt 2 = .ok (.iload_n 2, 1) := by decide +kernel
theorem dX12_flightAt_3 : decode cX12_flightAt 3 = .ok (.aload_n 0, 1) := by decide +kernel
theorem dX12_flightAt_4 : decode cX12_flightAt 4 = .ok (.getfield 7, 3) := by decide +kernel
theorem dX12_flightAt_7 : decode cX12_flightAt 7 = .ok (.sipush 173, 3) := by decide +kernel
theorem dX12_flightAt_10 : decode cX12_flightAt 10 = .ok (.iaload, 1) := by decide +kernel
theorem dX12_flightAt_11 : decode cX12_flightAt 11 = .ok (.if_icmp .ge 29, 3) := by decide +kernel
theorem dX12_flightAt_14 : decode cX12_flightAt 14 = .ok (.aload_n 0, 1) := by decide +kernel
theorem dX12_flightAt_15 : decode cX12_flightAt 15 = .ok (.iload_n 2, 1) := by decide +kernel
theorem dX12_flightAt_16 : decode cX12_flightAt 16 = .ok (.invokevirtual 144, 3) := by decide +kernel
theorem dX12_flightAt_19 : decode cX12_flightAt 19 = .ok (.ifCond .eq 15, 3) := by decide +kernel
theorem dX12_flightAt_22 : decode cX12_flightAt 22 = .ok (.aload_n 0, 1) := by decide +kernel
theorem dX12_flightAt_23 : decode cX12_flightAt 23 = .ok (.iload_n 2, 1) := by decide +kernel
theorem dX12_flightAt_24 : decode cX12_flightAt 24 = .ok (.iconst 4, 1) := by decide +kernel
theorem dX12_flightAt_25 : decode cX12_flightAt 25 = .ok (.invokevirtual 128, 3) := by decide +kernel
theorem dX12_flightAt_28 : decode cX12_flightAt 28 = .ok (.iload_n 1, 1) := by decide +kernel
theorem dX12_flightAt_29 : decode cX12_flightAt 29 = .ok (.if_icmp .ne 5, 3) := by decide +kernel
theorem dX12_flightAt_32 : decode cX12_flightAt 32 = .ok (.iload_n 2, 1) := by decide +kernel
theorem dX12_flightAt_33 : decode cX12_flightAt 33 = .ok (.ireturn, 1) := by decide +kernel
theorem dX12_flightAt_34 : decode cX12_flightAt 34 = .ok (.iinc 2 1, 3) := by decide +kernel
theorem dX12_flightAt_37 : decode cX12_flightAt 37 = .ok (.goto (-35), 3) := by decide +kernel
theorem dX12_flightAt_40 : decode cX12_flightAt 40 = .ok (.iconst (-1), 1) := by decide +kernel
theorem dX12_flightAt_41 : decode cX12_flightAt 41 = .ok (.ireturn, 1) := by decide +kernel
theorem dX12_at_0 : decode cX12_at 0 = .ok (.iload_n 1, 1) := by decide +kernel
theorem dX12_at_1 : decode cX12_at 1 = .ok (.invokestatic 162, 3) := by decide +kernel
theorem dX12_at_4 : decode cX12_at 4 = .ok (.ifCond .ne 5, 3) := by decide +kernel
theorem dX12_at_7 : decode cX12_at 7 = .ok (.iconst (-1), 1) := by decide +kernel
theorem dX12_at_8 : decode cX12_at 8 = .ok (.ireturn, 1) := by decide +kernel
theorem dX12_at_9 : decode cX12_at 9 = .ok (.aload_n 0, 1) := by decide +kernel
theorem dX12_at_10 : decode cX12_at 10 = .ok (.iload_n 1, 1) := by decide +kernel
theorem dX12_at_11 : decode cX12_at 11 = .ok (.invokevirtual 165, 3) := by decide +kernel
theorem dX12_at_14 : decode cX12_at 14 = .ok (.istore_n 2, 1) := by decide +kernel
theorem dX12_at_15 : decode cX12_at 15 = .ok (.iload_n 2, 1) := by decide +kernel
theorem dX12_at_16 : decode cX12_at 16 = .ok (.iconst (-1), 1) := by decide +kernel
theorem dX12_at_17 : decode cX12_at 17 = .ok (.if_icmp .eq 7, 3) := by decide +kernel
theorem dX12_at_20 : decode cX12_at 20 = .ok (.iload_n 2, 1) := by decide +kernel
theorem dX12_at_21 : decode cX12_at 21 = .ok (.goto 36, 3) := by decide +kernel
theorem dX12_at_24 : decode cX12_at 24 = .ok (.aload_n 0, 1) := by decide +kernel
theorem dX12_at_25 : decode cX12_at 25 = .ok (.getfield 7, 3) := by decide +kernel
theorem dX12_at_28 : decode cX12_at 28 = .ok (.sipush 252, 3) := by decide +kernel
theorem dX12_at_31 : decode cX12_at 31 = .ok (.iload_n 1, 1) := by decide +kernel
theorem dX12_at_32 : decode cX12_at 32 = .ok (.iadd, 1) := by decide +kernel
theorem dX12_at_33 : decode cX12_at 33 = .ok (.iaload, 1) := by decide +kernel
theorem dX12_at_34 : decode cX12_at 34 = .ok (.ifCond .le 8, 3) := by decide +kernel
theorem dX12_at_37 : decode cX12_at 37 = .ok (.bipush (-3), 2) := by decide +kernel
theorem dX12_at_39 : decode cX12_at 39 = .ok (.goto 18, 3) := by decide +kernel
theorem dX12_at_42 : decode cX12_at 42 = .ok (.aload_n 0, 1) := by decide +kernel
theorem dX12_at_43 : decode cX12_at 43 = .ok (.iload_n 1, 1) := by decide +kernel
theorem dX12_at_44 : decode cX12_at 44 = .ok (.invokevirtual 138, 3) := by decide +kernel
theorem dX12_at_47 : decode cX12_at 47 = .ok (.ifCond .eq 8, 3) := by decide +kernel
theorem dX12_at_50 : decode cX12_at 50 = .ok (.bipush (-2), 2) := by decide +kernel
theorem dX12_at_52 : decode cX12_at 52 = .ok (.goto 5, 3) := by decide +kernel
theorem dX12_at_55 : decode cX12_at 55 = .ok (.bipush (-4), 2) := by decide +kernel
theorem dX12_at_57 : decode cX12_at 57 = .ok (.ireturn, 1) := by decide +kernel
theorem dX12_beginsPlan_0 : decode cX12_beginsPlan 0 = .ok (.iconst 0, 1) := by decide +kernel
theorem dX12_beginsPlan_1 : decode cX12_beginsPlan 1 = .ok (.istore_n 1, 1) := by decide +kernel
theorem dX12_beginsPlan_2 : decode cX12_beginsPlan 2 = .ok (.iload_n 1, 1) := by decide +kernel
theorem dX12_beginsPlan_3 : decode cX12_beginsPlan 3 = .ok (.sipush 1200, 3) := by decide +kernel
theorem dX12_beginsPlan_6 : decode cX12_beginsPlan 6 = .ok (.if_icmp .ge 16, 3) := by decide +kernel
theorem dX12_beginsPlan_9 : decode cX12_beginsPlan 9 = .ok (.aload_n 0, 1) := by decide +kernel
theorem dX12_beginsPlan_10 : decode cX12_beginsPlan 10 = .ok (.getfield 23, 3) := by decide +kernel
theorem dX12_beginsPlan_13 : decode cX12_beginsPlan 13 = .ok (.iload_n 1, 1) := by decide +kernel
theorem dX12_beginsPlan_14 : decode cX12_beginsPlan 14 = .ok (.iconst 0, 1) := by decide +kernel
theorem dX12_beginsPlan_15 : decode cX12_beginsPlan 15 = .ok (.bastore, 1) := by decide +kernel
theorem dX12_beginsPlan_16 : decode cX12_beginsPlan 16 = .ok (.iinc 1 1, 3) := by decide +kernel
theorem dX12_beginsPlan_19 : decode cX12_beginsPlan 19 = .ok (.goto (-17), 3) := by decide +kernel
theorem dX12_beginsPlan_22 : decode cX12_beginsPlan 22 = .ok (.iconst 0, 1) := by decide +kernel
theorem dX12_beginsPlan_23 : decode cX12_beginsPlan 23 = .ok (.istore_n 1, 1) := by decide +kernel
theorem dX12_beginsPlan_24 : decode cX12_beginsPlan 24 = .ok (.iload_n 1, 1) := by decide +kernel
theorem dX12_beginsPlan_25 : decode cX12_beginsPlan 25 = .ok (.bipush 20, 2) := by decide +kernel
theorem dX12_beginsPlan_27 : decode cX12_beginsPlan 27 = .ok (.if_icmp .ge 16, 3) := by decide +kernel
theorem dX12_beginsPlan_30 : decode cX12_beginsPlan 30 = .ok (.aload_n 0, 1) := by decide +kernel
theorem dX12_beginsPlan_31 : decode cX12_beginsPlan 31 = .ok (.getfield 27, 3) := by decide +kernel
theorem dX12_beginsPlan_34 : decode cX12_beginsPlan 34 = .ok (.iload_n 1, 1) := by decide +kernel
theorem dX12_beginsPlan_35 : decode cX12_beginsPlan 35 = .ok (.iconst 0, 1) := by decide +kernel
theorem dX12_beginsPlan_36 : decode cX12_beginsPlan 36 = .ok (.bastore, 1) := by decide +kernel
theorem dX12_beginsPlan_37 : decode cX12_beginsPlan 37 = .ok (.iinc 1 1, 3) := by decide +kernel
theorem dX12_beginsPlan_40 : decode cX12_beginsPlan 40 = .ok (.goto (-16), 3) := by decide +kernel
theorem dX12_beginsPlan_43 : decode cX12_beginsPlan 43 = .ok (.return_, 1) := by decide +kernel
theorem dX12_takesFrom_0 : decode cX12_takesFrom 0 = .ok (.iload_n 1, 1) := by decide +kernel
theorem dX12_takesFrom_1 : decode cX12_takesFrom 1 = .ok (.istore_n 2, 1) := by decide +kernel
theorem dX12_takesFrom_2 : decode cX12_takesFrom 2 = .ok (.iload_n 2, 1) := by decide +kernel
theorem dX12_takesFrom_3 : decode cX12_takesFrom 3 = .ok (.sipush 1199, 3) := by decide +kernel
theorem dX12_takesFrom_6 : decode cX12_takesFrom 6 = .ok (.if_icmp .ge 27, 3) := by decide +kernel
theorem dX12_takesFrom_9 : decode cX12_takesFrom 9 = .ok (.aload_n 0, 1) := by decide +kernel
theorem dX12_takesFrom_10 : decode cX12_takesFrom 10 = .ok (.iload_n 2, 1) := by decide +kernel
theorem dX12_takesFrom_11 : decode cX12_takesFrom 11 = .ok (.invokevirtual 138, 3) := by decide +kernel
theorem dX12_takesFrom_14 : decode cX12_takesFrom 14 = .ok (.ifCond .eq 12, 3) := by decide +kernel
theorem dX12_takesFrom_17 : decode cX12_takesFrom 17 = .ok (.aload_n 0, 1) := by decide +kernel
theorem dX12_takesFrom_18 : decode cX12_takesFrom 18 = .ok (.getfield 23, 3) := by decide +kernel
theorem dX12_takesFrom_21 : decode cX12_takesFrom 21 = .ok (.iload_n 2, 1) := by decide +kernel
theorem dX12_takesFrom_22 : decode cX12_takesFrom 22 = .ok (.baload, 1) := by decide +kernel
theorem dX12_takesFrom_23 : decode cX12_takesFrom 23 = .ok (.ifCond .eq 10, 3) := by decide +kernel
theorem dX12_takesFrom_26 : decode cX12_takesFrom 26 = .ok (.iload_n 2, 1) := by decide +kernel
theorem dX12_takesFrom_27 : decode cX12_takesFrom 27 = .ok (.iconst 1, 1) := by decide +kernel
theorem dX12_takesFrom_28 : decode cX12_takesFrom 28 = .ok (.iadd, 1) := by decide +kernel
theorem dX12_takesFrom_29 : decode cX12_takesFrom 29 = .ok (.istore_n 2, 1) := by decide +kernel
theorem dX12_takesFrom_30 : decode cX12_takesFrom 30 = .ok (.goto (-28), 3) := by decide +kernel
theorem dX12_takesFrom_33 : decode cX12_takesFrom 33 = .ok (.aload_n 0, 1) := by decide +kernel
theorem dX12_takesFrom_34 : decode cX12_takesFrom 34 = .ok (.getfield 23, 3) := by decide +kernel
theorem dX12_takesFrom_37 : decode cX12_takesFrom 37 = .ok (.iload_n 2, 1) := by decide +kernel
theorem dX12_takesFrom_38 : decode cX12_takesFrom 38 = .ok (.iconst 1, 1) := by decide +kernel
theorem dX12_takesFrom_39 : decode cX12_takesFrom 39 = .ok (.bastore, 1) := by decide +kernel
theorem dX12_takesFrom_40 : decode cX12_takesFrom 40 = .ok (.iload_n 2, 1) := by decide +kernel
theorem dX12_takesFrom_41 : decode cX12_takesFrom 41 = .ok (.ireturn, 1) := by decide +kernel
theorem dX12_isAhead_0 : decode cX12_isAhead 0 = .ok (.iload_n 3, 1) := by decide +kernel
theorem dX12_isAhead_1 : decode cX12_isAhead 1 = .ok (.iconst 1, 1) := by decide +kernel
theorem dX12_isAhead_2 : decode cX12_isAhead 2 = .ok (.if_icmp .ne 39, 3) := by decide +kernel
theorem dX12_isAhead_5 : decode cX12_isAhead 5 = .ok (.aload_n 0, 1) := by decide +kernel
theorem dX12_isAhead_6 : decode cX12_isAhead 6 = .ok (.iload_n 1, 1) := by decide +kernel
theorem dX12_isAhead_7 : decode cX12_isAhead 7 = .ok (.iconst 3, 1) := by decide +kernel
theorem dX12_isAhead_8 : decode cX12_isAhead 8 = .ok (.invokevirtual 128, 3) := by decide +kernel
theorem dX12_isAhead_11 : decode cX12_isAhead 11 = .ok (.aload_n 0, 1) := by decide +kernel
theorem dX12_isAhead_12 : decode cX12_isAhead 12 = .ok (.iload_n 2, 1) := by decide +kernel
theorem dX12_isAhead_13 : decode cX12_isAhead 13 = .ok (.iconst 3, 1) := by decide +kernel
theorem dX12_isAhead_14 : decode cX12_isAhead 14 = .ok (.invokevirtual 128, 3) := by decide +kernel
theorem dX12_isAhead_17 : decode cX12_isAhead 17 = .ok (.if_icmp .eq 24, 3) := by decide +kernel
theorem dX12_isAhead_20 : decode cX12_isAhead 20 = .ok (.aload_n 0, 1) := by decide +kernel
theorem dX12_isAhead_21 : decode cX12_isAhead 21 = .ok (.iload_n 1, 1) := by decide +kernel
theorem dX12_isAhead_22 : decode cX12_isAhead 22 = .ok (.iconst 3, 1) := by decide +kernel
theorem dX12_isAhead_23 : decode cX12_isAhead 23 = .ok (.invokevirtual 128, 3) := by decide +kernel
theorem dX12_isAhead_26 : decode cX12_isAhead 26 = .ok (.aload_n 0, 1) := by decide +kernel
theorem dX12_isAhead_27 : decode cX12_isAhead 27 = .ok (.iload_n 2, 1) := by decide +kernel
theorem dX12_isAhead_28 : decode cX12_isAhead 28 = .ok (.iconst 3, 1) := by decide +kernel
theorem dX12_isAhead_29 : decode cX12_isAhead 29 = .ok (.invokevirtual 128, 3) := by decide +kernel
theorem dX12_isAhead_32 : decode cX12_isAhead 32 = .ok (.if_icmp .le 7, 3) := by decide +kernel
theorem dX12_isAhead_35 : decode cX12_isAhead 35 = .ok (.iconst 1, 1) := by decide +kernel
theorem dX12_isAhead_36 : decode cX12_isAhead 36 = .ok (.goto 4, 3) := by decide +kernel
theorem dX12_isAhead_39 : decode cX12_isAhead 39 = .ok (.iconst 0, 1) := by decide +kernel
theorem dX12_isAhead_40 : decode cX12_isAhead 40 = .ok (.ireturn, 1) := by decide +kernel
theorem dX12_isAhead_41 : decode cX12_isAhead 41 = .ok (.aload_n 0, 1) := by decide +kernel
theorem dX12_isAhead_42 : decode cX12_isAhead 42 = .ok (.iload_n 1, 1) := by decide +kernel
theorem dX12_isAhead_43 : decode cX12_isAhead 43 = .ok (.iconst 1, 1) := by decide +kernel
theorem dX12_isAhead_44 : decode cX12_isAhead 44 = .ok (.invokevirtual 128, 3) := by decide +kernel
theorem dX12_isAhead_47 : decode cX12_isAhead 47 = .ok (.iload_n 3, 1) := by decide +kernel
theorem dX12_isAhead_48 : decode cX12_isAhead 48 = .ok (.iconst 3, 1) := by decide +kernel
theorem dX12_isAhead_49 : decode cX12_isAhead 49 = .ok (.if_icmp .ne 12, 3) := by decide +kernel
theorem dX12_isAhead_52 : decode cX12_isAhead 52 = .ok (.aload_n 0, 1) := by decide +kernel
theorem dX12_isAhead_53 : decode cX12_isAhead 53 = .ok (.iload_n 1, 1) := by decide +kernel
theorem dX12_isAhead_54 : decode cX12_isAhead 54 = .ok (.iconst 5, 1) := by decide +kernel
theorem dX12_isAhead_55 : decode cX12_isAhead 55 = .ok (.invokevirtual 128, 3) := by decide +kernel
theorem dX12_isAhead_58 : decode cX12_isAhead 58 = .ok (.goto 4, 3) := by decide +kernel
theorem dX12_isAhead_61 : decode cX12_isAhead 61 = .ok (.iconst 0, 1) := by decide +kernel
theorem dX12_isAhead_62 : decode cX12_isAhead 62 = .ok (.iadd, 1) := by decide +kernel
theorem dX12_isAhead_63 : decode cX12_isAhead 63 = .ok (.istore 4, 2) := by decide +kernel
theorem dX12_isAhead_65 : decode cX12_isAhead 65 = .ok (.aload_n 0, 1) := by decide +kernel
theorem dX12_isAhead_66 : decode cX12_isAhead 66 = .ok (.iload_n 2, 1) := by decide +kernel
theorem dX12_isAhead_67 : decode cX12_isAhead 67 = .ok (.iconst 1, 1) := by decide +kernel
theorem dX12_isAhead_68 : decode cX12_isAhead 68 = .ok (.invokevirtual 128, 3) := by decide +kernel
theorem dX12_isAhead_71 : decode cX12_isAhead 71 = .ok (.iload_n 3, 1) := by decide +kernel
theorem dX12_isAhead_72 : decode cX12_isAhead 72 = .ok (.iconst 3, 1) := by decide +kernel
theorem dX12_isAhead_73 : decode cX12_isAhead 73 = .ok (.if_icmp .ne 12, 3) := by decide +kernel
theorem dX12_isAhead_76 : decode cX12_isAhead 76 = .ok (.aload_n 0, 1) := by decide +kernel
theorem dX12_isAhead_77 : decode cX12_isAhead 77 = .ok (.iload_n 2, 1) := by decide +kernel
theorem dX12_isAhead_78 : decode cX12_isAhead 78 = .ok (.iconst 5, 1) := by decide +kernel
theorem dX12_isAhead_79 : decode cX12_isAhead 79 = .ok (.invokevirtual 128, 3) := by decide +kernel
theorem dX12_isAhead_82 : decode cX12_isAhead 82 = .ok (.goto 4, 3) := by decide +kernel
theorem dX12_isAhead_85 : decode cX12_isAhead 85 = .ok (.iconst 0, 1) := by decide +kernel
theorem dX12_isAhead_86 : decode cX12_isAhead 86 = .ok (.iadd, 1) := by decide +kernel
theorem dX12_isAhead_87 : decode cX12_isAhead 87 = .ok (.istore 5, 2) := by decide +kernel
theorem dX12_isAhead_89 : decode cX12_isAhead 89 = .ok (.iload 4, 2) := by decide +kernel
theorem dX12_isAhead_91 : decode cX12_isAhead 91 = .ok (.iload 5, 2) := by decide +kernel
theorem dX12_isAhead_93 : decode cX12_isAhead 93 = .ok (.if_icmp .ge 7, 3) := by decide +kernel
theorem dX12_isAhead_96 : decode cX12_isAhead 96 = .ok (.iconst 1, 1) := by decide +kernel
theorem dX12_isAhead_97 : decode cX12_isAhead 97 = .ok (.goto 4, 3) := by decide +kernel
theorem dX12_isAhead_100 : decode cX12_isAhead 100 = .ok (.iconst 0, 1) := by decide +kernel
theorem dX12_isAhead_101 : decode cX12_isAhead 101 = .ok (.ireturn, 1) := by decide +kernel
theorem dX12_firstOf_0 : decode cX12_firstOf 0 = .ok (.iconst (-1), 1) := by decide +kernel
theorem dX12_firstOf_1 : decode cX12_firstOf 1 = .ok (.istore 4, 2) := by decide +kernel
theorem dX12_firstOf_3 : decode cX12_firstOf 3 = .ok (.iconst 0, 1) := by decide +kernel
theorem dX12_firstOf_4 : decode cX12_firstOf 4 = .ok (.istore 5, 2) := by decide +kernel
theorem dX12_firstOf_6 : decode cX12_firstOf 6 = .ok (.iload 5, 2) := by decide +kernel
theorem dX12_firstOf_8 : decode cX12_firstOf 8 = .ok (.aload_n 0, 1) := by decide +kernel
theorem dX12_firstOf_9 : decode cX12_firstOf 9 = .ok (.getfield 7, 3) := by decide +kernel
theorem dX12_firstOf_12 : decode cX12_firstOf 12 = .ok (.sipush 173, 3) := by decide +kernel
theorem dX12_firstOf_15 : decode cX12_firstOf 15 = .ok (.iaload, 1) := by decide +kernel
theorem dX12_firstOf_16 : decode cX12_firstOf 16 = .ok (.if_icmp .ge 141, 3) := by decide +kernel
theorem dX12_firstOf_19 : decode cX12_firstOf 19 = .ok (.aload_n 0, 1) := by decide +kernel
theorem dX12_firstOf_20 : decode cX12_firstOf 20 = .ok (.getfield 27, 3) := by decide +kernel
theorem dX12_firstOf_23 : decode cX12_firstOf 23 = .ok (.iload 5, 2) := by decide +kernel
theorem dX12_firstOf_25 : decode cX12_firstOf 25 = .ok (.baload, 1) := by decide +kernel
theorem dX12_firstOf_26 : decode cX12_firstOf 26 = .ok (.ifCond .ne 125, 3) := by decide +kernel
theorem dX12_firstOf_29 : decode cX12_firstOf 29 = .ok (.iload_n 3, 1) := by decide +kernel
theorem dX12_firstOf_30 : decode cX12_firstOf 30 = .ok (.iconst (-1), 1) := by decide +kernel
theorem dX12_firstOf_31 : decode cX12_firstOf 31 = .ok (.if_icmp .eq 17, 3) := by decide +kernel
theorem dX12_firstOf_34 : decode cX12_firstOf 34 = .ok (.aload_n 0, 1) := by decide +kernel
theorem dX12_firstOf_35 : decode cX12_firstOf 35 = .ok (.iload 5, 2) := by decide +kernel
theorem dX12_firstOf_37 : decode cX12_firstOf 37 = .ok (.iconst 0, 1) := by decide +kernel
theorem dX12_firstOf_38 : decode cX12_firstOf 38 = .ok (.invokevirtual 128, 3) := by decide +kernel
theorem dX12_firstOf_41 : decode cX12_firstOf 41 = .ok (.iload_n 3, 1) := by decide +kernel
theorem dX12_firstOf_42 : decode cX12_firstOf 42 = .ok (.if_icmp .eq 6, 3) := by decide +kernel
theorem dX12_firstOf_45 : decode cX12_firstOf 45 = .ok (.goto 106, 3) := by decide +kernel
theorem dX12_firstOf_48 : decode cX12_firstOf 48 = .ok (.iload_n 1, 1) := by decide +kernel
theorem dX12_firstOf_49 : decode cX12_firstOf 49 = .ok (.ifCond .ne 28, 3) := by decide +kernel
theorem dX12_firstOf_52 : decode cX12_firstOf 52 = .ok (.aload_n 0, 1) := by decide +kernel
theorem dX12_firstOf_53 : decode cX12_firstOf 53 = .ok (.iload 5, 2) := by decide +kernel
theorem dX12_firstOf_55 : decode cX12_firstOf 55 = .ok (.invokevirtual 147, 3) := by decide +kernel
theorem dX12_firstOf_58 : decode cX12_firstOf 58 = .ok (.aload_n 0, 1) := by decide +kernel
theorem dX12_firstOf_59 : decode cX12_firstOf 59 = .ok (.getfield 7, 3) := by decide +kernel
theorem dX12_firstOf_62 : decode cX12_firstOf 62 = .ok (.sipush 172, 3) := by decide +kernel
theorem dX12_firstOf_65 : decode cX12_firstOf 65 = .ok (.iaload, 1) := by decide +kernel
theorem dX12_firstOf_66 : decode cX12_firstOf 66 = .ok (.if_icmp .gt 7, 3) := by decide +kernel
theorem dX12_firstOf_69 : decode cX12_firstOf 69 = .ok (.iconst 1, 1) := by decide +kernel
theorem dX12_firstOf_70 : decode cX12_firstOf 70 = .ok (.goto 52, 3) := by decide +kernel
theorem dX12_firstOf_73 : decode cX12_firstOf 73 = .ok (.iconst 0, 1) := by decide +kernel
theorem dX12_firstOf_74 : decode cX12_firstOf 74 = .ok (.goto 48, 3) := by decide +kernel
theorem dX12_firstOf_77 : decode cX12_firstOf 77 = .ok (.iload_n 1, 1) := by decide +kernel
theorem dX12_firstOf_78 : decode cX12_firstOf 78 = .ok (.iconst 1, 1) := by decide +kernel
theorem dX12_firstOf_79 : decode cX12_firstOf 79 = .ok (.if_icmp .ne 28, 3) := by decide +kernel
theorem dX12_firstOf_82 : decode cX12_firstOf 82 = .ok (.aload_n 0, 1) := by decide +kernel
theorem dX12_firstOf_83 : decode cX12_firstOf 83 = .ok (.iload 5, 2) := by decide +kernel
theorem dX12_firstOf_85 : decode cX12_firstOf 85 = .ok (.invokevirtual 147, 3) := by decide +kernel
theorem dX12_firstOf_88 : decode cX12_firstOf 88 = .ok (.aload_n 0, 1) := by decide +kernel
theorem dX12_firstOf_89 : decode cX12_firstOf 89 = .ok (.getfield 7, 3) := by decide +kernel
theorem dX12_firstOf_92 : decode cX12_firstOf 92 = .ok (.sipush 172, 3) := by decide +kernel
theorem dX12_firstOf_95 : decode cX12_firstOf 95 = .ok (.iaload, 1) := by decide +kernel
theorem dX12_firstOf_96 : decode cX12_firstOf 96 = .ok (.if_icmp .le 7, 3) := by decide +kernel
theorem dX12_firstOf_99 : decode cX12_firstOf 99 = .ok (.iconst 1, 1) := by decide +kernel
theorem dX12_firstOf_100 : decode cX12_firstOf 100 = .ok (.goto 22, 3) := by decide +kernel
theorem dX12_firstOf_103 : decode cX12_firstOf 103 = .ok (.iconst 0, 1) := by decide +kernel
theorem dX12_firstOf_104 : decode cX12_firstOf 104 = .ok (.goto 18, 3) := by decide +kernel
theorem dX12_firstOf_107 : decode cX12_firstOf 107 = .ok (.iload_n 1, 1) := by decide +kernel
theorem dX12_firstOf_108 : decode cX12_firstOf 108 = .ok (.iconst 2, 1) := by decide +kernel
theorem dX12_firstOf_109 : decode cX12_firstOf 109 = .ok (.if_icmp .ne 12, 3) := by decide +kernel
theorem dX12_firstOf_112 : decode cX12_firstOf 112 = .ok (.aload_n 0, 1) := by decide +kernel
theorem dX12_firstOf_113 : decode cX12_firstOf 113 = .ok (.iload 5, 2) := by decide +kernel
theorem dX12_firstOf_115 : decode cX12_firstOf 115 = .ok (.invokevirtual 150, 3) := by decide +kernel
theorem dX12_firstOf_118 : decode cX12_firstOf 118 = .ok (.goto 4, 3) := by decide +kernel
theorem dX12_firstOf_121 : decode cX12_firstOf 121 = .ok (.iconst 1, 1) := by decide +kernel
theorem dX12_firstOf_122 : decode cX12_firstOf 122 = .ok (.istore 6, 2) := by decide +kernel
theorem dX12_firstOf_124 : decode cX12_firstOf 124 = .ok (.iload 6, 2) := by decide +kernel
theorem dX12_firstOf_126 : decode cX12_firstOf 126 = .ok (.ifCond .eq 25, 3) := by decide +kernel
theorem dX12_firstOf_129 : decode cX12_firstOf 129 = .ok (.iload 4, 2) := by decide +kernel
theorem dX12_firstOf_131 : decode cX12_firstOf 131 = .ok (.iconst (-1), 1) := by decide +kernel
theorem dX12_firstOf_132 : decode cX12_firstOf 132 = .ok (.if_icmp .eq 15, 3) := by decide +kernel
theorem dX12_firstOf_135 : decode cX12_firstOf 135 = .ok (.aload_n 0, 1) := by decide +kernel
theorem dX12_firstOf_136 : decode cX12_firstOf 136 = .ok (.iload 5, 2) := by decide +kernel
theorem dX12_firstOf_138 : decode cX12_firstOf 138 = .ok (.iload 4, 2) := by decide +kernel
theorem dX12_firstOf_140 : decode cX12_firstOf 140 = .ok (.iload_n 2, 1) := by decide +kernel
theorem dX12_firstOf_141 : decode cX12_firstOf 141 = .ok (.invokevirtual 168, 3) := by decide +kernel
theorem dX12_firstOf_144 : decode cX12_firstOf 144 = .ok (.ifCond .eq 7, 3) := by decide +kernel
theorem dX12_firstOf_147 : decode cX12_firstOf 147 = .ok (.iload 5, 2) := by decide +kernel
theorem dX12_firstOf_149 : decode cX12_firstOf 149 = .ok (.istore 4, 2) := by decide +kernel
theorem dX12_firstOf_151 : decode cX12_firstOf 151 = .ok (.iinc 5 1, 3) := by decide +kernel
theorem dX12_firstOf_154 : decode cX12_firstOf 154 = .ok (.goto (-148), 3) := by decide +kernel
theorem dX12_firstOf_157 : decode cX12_firstOf 157 = .ok (.iload 4, 2) := by decide +kernel
theorem dX12_firstOf_159 : decode cX12_firstOf 159 = .ok (.ireturn, 1) := by decide +kernel
theorem dX12_grounds_0 : decode cX12_grounds 0 = .ok (.aload_n 0, 1) := by decide +kernel
theorem dX12_grounds_1 : decode cX12_grounds 1 = .ok (.iload_n 1, 1) := by decide +kernel
theorem dX12_grounds_2 : decode cX12_grounds 2 = .ok (.aload_n 0, 1) := by decide +kernel
theorem dX12_grounds_3 : decode cX12_grounds 3 = .ok (.aload_n 0, 1) := by decide +kernel
theorem dX12_grounds_4 : decode cX12_grounds 4 = .ok (.iload_n 1, 1) := by decide +kernel
theorem dX12_grounds_5 : decode cX12_grounds 5 = .ok (.invokevirtual 156, 3) := by decide +kernel
theorem dX12_grounds_8 : decode cX12_grounds 8 = .ok (.invokevirtual 171, 3) := by decide +kernel
theorem dX12_grounds_11 : decode cX12_grounds 11 = .ok (.invokevirtual 174, 3) := by decide +kernel
theorem dX12_grounds_14 : decode cX12_grounds 14 = .ok (.aload_n 0, 1) := by decide +kernel
theorem dX12_grounds_15 : decode cX12_grounds 15 = .ok (.getfield 27, 3) := by decide +kernel
theorem dX12_grounds_18 : decode cX12_grounds 18 = .ok (.iload_n 1, 1) := by decide +kernel
theorem dX12_grounds_19 : decode cX12_grounds 19 = .ok (.iconst 1, 1) := by decide +kernel
theorem dX12_grounds_20 : decode cX12_grounds 20 = .ok (.bastore, 1) := by decide +kernel
theorem dX12_grounds_21 : decode cX12_grounds 21 = .ok (.return_, 1) := by decide +kernel
theorem dX12_turns_0 : decode cX12_turns 0 = .ok (.aload_n 0, 1) := by decide +kernel
theorem dX12_turns_1 : decode cX12_turns 1 = .ok (.getfield 7, 3) := by decide +kernel
theorem dX12_turns_4 : decode cX12_turns 4 = .ok (.sipush 173, 3) := by decide +kernel
theorem dX12_turns_7 : decode cX12_turns 7 = .ok (.iaload, 1) := by decide +kernel
theorem dX12_turns_8 : decode cX12_turns 8 = .ok (.istore_n 1, 1) := by decide +kernel
theorem dX12_turns_9 : decode cX12_turns 9 = .ok (.iconst 0, 1) := by decide +kernel
theorem dX12_turns_10 : decode cX12_turns 10 = .ok (.istore_n 2, 1) := by decide +kernel
theorem dX12_turns_11 : decode cX12_turns 11 = .ok (.iload_n 2, 1) := by decide +kernel
theorem dX12_turns_12 : decode cX12_turns 12 = .ok (.aload_n 0, 1) := by decide +kernel
theorem dX12_turns_13 : decode cX12_turns 13 = .ok (.getfield 7, 3) := by decide +kernel
theorem dX12_turns_16 : decode cX12_turns 16 = .ok (.sipush 173, 3) := by decide +kernel
theorem dX12_turns_19 : decode cX12_turns 19 = .ok (.iaload, 1) := by decide +kernel
theorem dX12_turns_20 : decode cX12_turns 20 = .ok (.if_icmp .ge 26, 3) := by decide +kernel
theorem dX12_turns_23 : decode cX12_turns 23 = .ok (.iload_n 1, 1) := by decide +kernel
theorem dX12_turns_24 : decode cX12_turns 24 = .ok (.aload_n 0, 1) := by decide +kernel
theorem dX12_turns_25 : decode cX12_turns 25 = .ok (.getfield 27, 3) := by decide +kernel
theorem dX12_turns_28 : decode cX12_turns 28 = .ok (.iload_n 2, 1) := by decide +kernel
theorem dX12_turns_29 : decode cX12_turns 29 = .ok (.baload, 1) := by decide +kernel
theorem dX12_turns_30 : decode cX12_turns 30 = .ok (.ifCond .eq 7, 3) := by decide +kernel
theorem dX12_turns_33 : decode cX12_turns 33 = .ok (.iconst 1, 1) := by decide +kernel
theorem dX12_turns_34 : decode cX12_turns 34 = .ok (.goto 4, 3) := by decide +kernel
theorem dX12_turns_37 : decode cX12_turns 37 = .ok (.iconst 0, 1) := by decide +kernel
theorem dX12_turns_38 : decode cX12_turns 38 = .ok (.isub, 1) := by decide +kernel
theorem dX12_turns_39 : decode cX12_turns 39 = .ok (.istore_n 1, 1) := by decide +kernel
theorem dX12_turns_40 : decode cX12_turns 40 = .ok (.iinc 2 1, 3) := by decide +kernel
theorem dX12_turns_43 : decode cX12_turns 43 = .ok (.goto (-32), 3) := by decide +kernel
theorem dX12_turns_46 : decode cX12_turns 46 = .ok (.iconst 0, 1) := by decide +kernel
theorem dX12_turns_47 : decode cX12_turns 47 = .ok (.istore_n 2, 1) := by decide +kernel
theorem dX12_turns_48 : decode cX12_turns 48 = .ok (.iload_n 1, 1) := by decide +kernel
theorem dX12_turns_49 : decode cX12_turns 49 = .ok (.ifCond .le 37, 3) := by decide +kernel
theorem dX12_turns_52 : decode cX12_turns 52 = .ok (.aload_n 0, 1) := by decide +kernel
theorem dX12_turns_53 : decode cX12_turns 53 = .ok (.iconst 1, 1) := by decide +kernel
theorem dX12_turns_54 : decode cX12_turns 54 = .ok (.iconst 0, 1) := by decide +kernel
theorem dX12_turns_55 : decode cX12_turns 55 = .ok (.iload_n 2, 1) := by decide +kernel
theorem dX12_turns_56 : decode cX12_turns 56 = .ok (.invokevirtual 178, 3) := by decide +kernel
theorem dX12_turns_59 : decode cX12_turns 59 = .ok (.istore_n 3, 1) := by decide +kernel
theorem dX12_turns_60 : decode cX12_turns 60 = .ok (.iload_n 3, 1) := by decide +kernel
theorem dX12_turns_61 : decode cX12_turns 61 = .ok (.iconst (-1), 1) := by decide +kernel
theorem dX12_turns_62 : decode cX12_turns 62 = .ok (.if_icmp .ne 6, 3) := by decide +kernel
theorem dX12_turns_65 : decode cX12_turns 65 = .ok (.goto 12, 3) := by decide +kernel
theorem dX12_turns_68 : decode cX12_turns 68 = .ok (.aload_n 0, 1) := by decide +kernel
theorem dX12_turns_69 : decode cX12_turns 69 = .ok (.iload_n 3, 1) := by decide +kernel
theorem dX12_turns_70 : decode cX12_turns 70 = .ok (.invokevirtual 182, 3) := by decide +kernel
theorem dX12_turns_73 : decode cX12_turns 73 = .ok (.iload_n 1, 1) := by decide +kernel
theorem dX12_turns_74 : decode cX12_turns 74 = .ok (.iconst 1, 1) := by decide +kernel
theorem dX12_turns_75 : decode cX12_turns 75 = .ok (.isub, 1) := by decide +kernel
theorem dX12_turns_76 : decode cX12_turns 76 = .ok (.istore_n 1, 1) := by decide +kernel
theorem dX12_turns_77 : decode cX12_turns 77 = .ok (.iload_n 2, 1) := by decide +kernel
theorem dX12_turns_78 : decode cX12_turns 78 = .ok (.iconst 1, 1) := by decide +kernel
theorem dX12_turns_79 : decode cX12_turns 79 = .ok (.iadd, 1) := by decide +kernel
theorem dX12_turns_80 : decode cX12_turns 80 = .ok (.iconst 5, 1) := by decide +kernel
theorem dX12_turns_81 : decode cX12_turns 81 = .ok (.irem, 1) := by decide +kernel
theorem dX12_turns_82 : decode cX12_turns 82 = .ok (.istore_n 2, 1) := by decide +kernel
theorem dX12_turns_83 : decode cX12_turns 83 = .ok (.goto (-35), 3) := by decide +kernel
theorem dX12_turns_86 : decode cX12_turns 86 = .ok (.return_, 1) := by decide +kernel
theorem dX12_plansBy_0 : decode cX12_plansBy 0 = .ok (.aload_n 0, 1) := by decide +kernel
theorem dX12_plansBy_1 : decode cX12_plansBy 1 = .ok (.invokevirtual 185, 3) := by decide +kernel
theorem dX12_plansBy_4 : decode cX12_plansBy 4 = .ok (.iconst 0, 1) := by decide +kernel
theorem dX12_plansBy_5 : decode cX12_plansBy 5 = .ok (.istore_n 2, 1) := by decide +kernel
theorem dX12_plansBy_6 : decode cX12_plansBy 6 = .ok (.iload_n 2, 1) := by decide +kernel
theorem dX12_plansBy_7 : decode cX12_plansBy 7 = .ok (.aload_n 0, 1) := by decide +kernel
theorem dX12_plansBy_8 : decode cX12_plansBy 8 = .ok (.getfield 7, 3) := by decide +kernel
theorem dX12_plansBy_11 : decode cX12_plansBy 11 = .ok (.sipush 173, 3) := by decide +kernel
theorem dX12_plansBy_14 : decode cX12_plansBy 14 = .ok (.iaload, 1) := by decide +kernel
theorem dX12_plansBy_15 : decode cX12_plansBy 15 = .ok (.if_icmp .ge 17, 3) := by decide +kernel
theorem dX12_plansBy_18 : decode cX12_plansBy 18 = .ok (.aload_n 0, 1) := by decide +kernel
theorem dX12_plansBy_19 : decode cX12_plansBy 19 = .ok (.iload_n 2, 1) := by decide +kernel
theorem dX12_plansBy_20 : decode cX12_plansBy 20 = .ok (.bipush 7, 2) := by decide +kernel
theorem dX12_plansBy_22 : decode cX12_plansBy 22 = .ok (.iconst 0, 1) := by decide +kernel
theorem dX12_plansBy_23 : decode cX12_plansBy 23 = .ok (.invokevirtual 90, 3) := by decide +kernel
theorem dX12_plansBy_26 : decode cX12_plansBy 26 = .ok (.iinc 2 1, 3) := by decide +kernel
theorem dX12_plansBy_29 : decode cX12_plansBy 29 = .ok (.goto (-23), 3) := by decide +kernel
theorem dX12_plansBy_32 : decode cX12_plansBy 32 = .ok (.aload_n 0, 1) := by decide +kernel
theorem dX12_plansBy_33 : decode cX12_plansBy 33 = .ok (.iconst 0, 1) := by decide +kernel
theorem dX12_plansBy_34 : decode cX12_plansBy 34 = .ok (.iconst 0, 1) := by decide +kernel
theorem dX12_plansBy_35 : decode cX12_plansBy 35 = .ok (.iconst (-1), 1) := by decide +kernel
theorem dX12_plansBy_36 : decode cX12_plansBy 36 = .ok (.invokevirtual 178, 3) := by decide +kernel
theorem dX12_plansBy_39 : decode cX12_plansBy 39 = .ok (.istore_n 2, 1) := by decide +kernel
theorem dX12_plansBy_40 : decode cX12_plansBy 40 = .ok (.iload_n 2, 1) := by decide +kernel
theorem dX12_plansBy_41 : decode cX12_plansBy 41 = .ok (.iconst (-1), 1) := by decide +kernel
theorem dX12_plansBy_42 : decode cX12_plansBy 42 = .ok (.if_icmp .eq 61, 3) := by decide +kernel
theorem dX12_plansBy_45 : decode cX12_plansBy 45 = .ok (.aload_n 0, 1) := by decide +kernel
theorem dX12_plansBy_46 : decode cX12_plansBy 46 = .ok (.aload_n 0, 1) := by decide +kernel
theorem dX12_plansBy_47 : decode cX12_plansBy 47 = .ok (.iload_n 2, 1) := by decide +kernel
theorem dX12_plansBy_48 : decode cX12_plansBy 48 = .ok (.iconst 1, 1) := by decide +kernel
theorem dX12_plansBy_49 : decode cX12_plansBy 49 = .ok (.invokevirtual 128, 3) := by decide +kernel
theorem dX12_plansBy_52 : decode cX12_plansBy 52 = .ok (.invokevirtual 171, 3) := by decide +kernel
theorem dX12_plansBy_55 : decode cX12_plansBy 55 = .ok (.istore_n 3, 1) := by decide +kernel
theorem dX12_plansBy_56 : decode cX12_plansBy 56 = .ok (.aload_n 0, 1) := by decide +kernel
theorem dX12_plansBy_57 : decode cX12_plansBy 57 = .ok (.iload_n 2, 1) := by decide +kernel
theorem dX12_plansBy_58 : decode cX12_plansBy 58 = .ok (.iconst 4, 1) := by decide +kernel
theorem dX12_plansBy_59 : decode cX12_plansBy 59 = .ok (.iload_n 3, 1) := by decide +kernel
theorem dX12_plansBy_60 : decode cX12_plansBy 60 = .ok (.invokevirtual 90, 3) := by decide +kernel
theorem dX12_plansBy_63 : decode cX12_plansBy 63 = .ok (.aload_n 0, 1) := by decide +kernel
theorem dX12_plansBy_64 : decode cX12_plansBy 64 = .ok (.iload_n 2, 1) := by decide +kernel
theorem dX12_plansBy_65 : decode cX12_plansBy 65 = .ok (.iconst 5, 1) := by decide +kernel
theorem dX12_plansBy_66 : decode cX12_plansBy 66 = .ok (.iconst 0, 1) := by decide +kernel
theorem dX12_plansBy_67 : decode cX12_plansBy 67 = .ok (.invokevirtual 90, 3) := by decide +kernel
theorem dX12_plansBy_70 : decode cX12_plansBy 70 = .ok (.aload_n 0, 1) := by decide +kernel
theorem dX12_plansBy_71 : decode cX12_plansBy 71 = .ok (.iload_n 2, 1) := by decide +kernel
theorem dX12_plansBy_72 : decode cX12_plansBy 72 = .ok (.bipush 6, 2) := by decide +kernel
theorem dX12_plansBy_74 : decode cX12_plansBy 74 = .ok (.iload_n 3, 1) := by decide +kernel
theorem dX12_plansBy_75 : decode cX12_plansBy 75 = .ok (.aload_n 0, 1) := by decide +kernel
theorem dX12_plansBy_76 : decode cX12_plansBy 76 = .ok (.iload_n 2, 1) := by decide +kernel
theorem dX12_plansBy_77 : decode cX12_plansBy 77 = .ok (.iconst 1, 1) := by decide +kernel
theorem dX12_plansBy_78 : decode cX12_plansBy 78 = .ok (.invokevirtual 128, 3) := by decide +kernel
theorem dX12_plansBy_81 : decode cX12_plansBy 81 = .ok (.isub, 1) := by decide +kernel
theorem dX12_plansBy_82 : decode cX12_plansBy 82 = .ok (.invokevirtual 90, 3) := by decide +kernel
theorem dX12_plansBy_85 : decode cX12_plansBy 85 = .ok (.aload_n 0, 1) := by decide +kernel
theorem dX12_plansBy_86 : decode cX12_plansBy 86 = .ok (.getfield 27, 3) := by decide +kernel
theorem dX12_plansBy_89 : decode cX12_plansBy 89 = .ok (.iload_n 2, 1) := by decide +kernel
theorem dX12_plansBy_90 : decode cX12_plansBy 90 = .ok (.iconst 1, 1) := by decide +kernel
theorem dX12_plansBy_91 : decode cX12_plansBy 91 = .ok (.bastore, 1) := by decide +kernel
theorem dX12_plansBy_92 : decode cX12_plansBy 92 = .ok (.aload_n 0, 1) := by decide +kernel
theorem dX12_plansBy_93 : decode cX12_plansBy 93 = .ok (.iconst 0, 1) := by decide +kernel
theorem dX12_plansBy_94 : decode cX12_plansBy 94 = .ok (.iconst 0, 1) := by decide +kernel
theorem dX12_plansBy_95 : decode cX12_plansBy 95 = .ok (.iconst (-1), 1) := by decide +kernel
theorem dX12_plansBy_96 : decode cX12_plansBy 96 = .ok (.invokevirtual 178, 3) := by decide +kernel
theorem dX12_plansBy_99 : decode cX12_plansBy 99 = .ok (.istore_n 2, 1) := by decide +kernel
theorem dX12_plansBy_100 : decode cX12_plansBy 100 = .ok (.goto (-60), 3) := by decide +kernel
theorem dX12_plansBy_103 : decode cX12_plansBy 103 = .ok (.iload_n 1, 1) := by decide +kernel
theorem dX12_plansBy_104 : decode cX12_plansBy 104 = .ok (.iconst 2, 1) := by decide +kernel
theorem dX12_plansBy_105 : decode cX12_plansBy 105 = .ok (.if_icmp .ne 7, 3) := by decide +kernel
theorem dX12_plansBy_108 : decode cX12_plansBy 108 = .ok (.aload_n 0, 1) := by decide +kernel
theorem dX12_plansBy_109 : decode cX12_plansBy 109 = .ok (.invokevirtual 188, 3) := by decide +kernel
theorem dX12_plansBy_112 : decode cX12_plansBy 112 = .ok (.aload_n 0, 1) := by decide +kernel
theorem dX12_plansBy_113 : decode cX12_plansBy 113 = .ok (.iconst 1, 1) := by decide +kernel
theorem dX12_plansBy_114 : decode cX12_plansBy 114 = .ok (.iload_n 1, 1) := by decide +kernel
theorem dX12_plansBy_115 : decode cX12_plansBy 115 = .ok (.iconst (-1), 1) := by decide +kernel
theorem dX12_plansBy_116 : decode cX12_plansBy 116 = .ok (.invokevirtual 178, 3) := by decide +kernel
theorem dX12_plansBy_119 : decode cX12_plansBy 119 = .ok (.istore_n 2, 1) := by decide +kernel
theorem dX12_plansBy_120 : decode cX12_plansBy 120 = .ok (.iload_n 2, 1) := by decide +kernel
theorem dX12_plansBy_121 : decode cX12_plansBy 121 = .ok (.iconst (-1), 1) := by decide +kernel
theorem dX12_plansBy_122 : decode cX12_plansBy 122 = .ok (.if_icmp .eq 19, 3) := by decide +kernel
theorem dX12_plansBy_125 : decode cX12_plansBy 125 = .ok (.aload_n 0, 1) := by decide +kernel
theorem dX12_plansBy_126 : decode cX12_plansBy 126 = .ok (.iload_n 2, 1) := by decide +kernel
theorem dX12_plansBy_127 : decode cX12_plansBy 127 = .ok (.invokevirtual 182, 3) := by decide +kernel
theorem dX12_plansBy_130 : decode cX12_plansBy 130 = .ok (.aload_n 0, 1) := by decide +kernel
theorem dX12_plansBy_131 : decode cX12_plansBy 131 = .ok (.iconst 1, 1) := by decide +kernel
theorem dX12_plansBy_132 : decode cX12_plansBy 132 = .ok (.iload_n 1, 1) := by decide +kernel
theorem dX12_plansBy_133 : decode cX12_plansBy 133 = .ok (.iconst (-1), 1) := by decide +kernel
theorem dX12_plansBy_134 : decode cX12_plansBy 134 = .ok (.invokevirtual 178, 3) := by decide +kernel
theorem dX12_plansBy_137 : decode cX12_plansBy 137 = .ok (.istore_n 2, 1) := by decide +kernel
theorem dX12_plansBy_138 : decode cX12_plansBy 138 = .ok (.goto (-18), 3) := by decide +kernel
theorem dX12_plansBy_141 : decode cX12_plansBy 141 = .ok (.aload_n 0, 1) := by decide +kernel
theorem dX12_plansBy_142 : decode cX12_plansBy 142 = .ok (.invokevirtual 87, 3) := by decide +kernel
theorem dX12_plansBy_145 : decode cX12_plansBy 145 = .ok (.aload_n 0, 1) := by decide +kernel
theorem dX12_plansBy_146 : decode cX12_plansBy 146 = .ok (.getfield 7, 3) := by decide +kernel
theorem dX12_plansBy_149 : decode cX12_plansBy 149 = .ok (.sipush 174, 3) := by decide +kernel
theorem dX12_plansBy_152 : decode cX12_plansBy 152 = .ok (.iconst 1, 1) := by decide +kernel
theorem dX12_plansBy_153 : decode cX12_plansBy 153 = .ok (.iastore, 1) := by decide +kernel
theorem dX12_plansBy_154 : decode cX12_plansBy 154 = .ok (.return_, 1) := by decide +kernel
theorem dX12_plan_0 : decode cX12_plan 0 = .ok (.aload_n 0, 1) := by decide +kernel
theorem dX12_plan_1 : decode cX12_plan 1 = .ok (.getfield 7, 3) := by decide +kernel
theorem dX12_plan_4 : decode cX12_plan 4 = .ok (.sipush 173, 3) := by decide +kernel
theorem dX12_plan_7 : decode cX12_plan 7 = .ok (.iaload, 1) := by decide +kernel
theorem dX12_plan_8 : decode cX12_plan 8 = .ok (.ifCond .ne 6, 3) := by decide +kernel
theorem dX12_plan_11 : decode cX12_plan 11 = .ok (.bipush (-2), 2) := by decide +kernel
theorem dX12_plan_13 : decode cX12_plan 13 = .ok (.ireturn, 1) := by decide +kernel
theorem dX12_plan_14 : decode cX12_plan 14 = .ok (.aload_n 0, 1) := by decide +kernel
theorem dX12_plan_15 : decode cX12_plan 15 = .ok (.iconst 0, 1) := by decide +kernel
theorem dX12_plan_16 : decode cX12_plan 16 = .ok (.invokevirtual 191, 3) := by decide +kernel
theorem dX12_plan_19 : decode cX12_plan 19 = .ok (.iconst 0, 1) := by decide +kernel
theorem dX12_plan_20 : decode cX12_plan 20 = .ok (.istore_n 1, 1) := by decide +kernel
theorem dX12_plan_21 : decode cX12_plan 21 = .ok (.iconst 0, 1) := by decide +kernel
theorem dX12_plan_22 : decode cX12_plan 22 = .ok (.istore_n 2, 1) := by decide +kernel
theorem dX12_plan_23 : decode cX12_plan 23 = .ok (.iload_n 2, 1) := by decide +kernel
theorem dX12_plan_24 : decode cX12_plan 24 = .ok (.aload_n 0, 1) := by decide +kernel
theorem dX12_plan_25 : decode cX12_plan 25 = .ok (.getfield 7, 3) := by decide +kernel
theorem dX12_plan_28 : decode cX12_plan 28 = .ok (.sipush 173, 3) := by decide +kernel
theorem dX12_plan_31 : decode cX12_plan 31 = .ok (.iaload, 1) := by decide +kernel
theorem dX12_plan_32 : decode cX12_plan 32 = .ok (.if_icmp .ge 25, 3) := by decide +kernel
theorem dX12_plan_35 : decode cX12_plan 35 = .ok (.iload_n 1, 1) := by decide +kernel
theorem dX12_plan_36 : decode cX12_plan 36 = .ok (.aload_n 0, 1) := by decide +kernel
theorem dX12_plan_37 : decode cX12_plan 37 = .ok (.iload_n 2, 1) := by decide +kernel
theorem dX12_plan_38 : decode cX12_plan 38 = .ok (.invokevirtual 194, 3) := by decide +kernel
theorem dX12_plan_41 : decode cX12_plan 41 = .ok (.ifCond .le 7, 3) := by decide +kernel
theorem dX12_plan_44 : decode cX12_plan 44 = .ok (.iconst 1, 1) := by decide +kernel
theorem dX12_plan_45 : decode cX12_plan 45 = .ok (.goto 4, 3) := by decide +kernel
theorem dX12_plan_48 : decode cX12_plan 48 = .ok (.iconst 0, 1) := by decide +kernel
theorem dX12_plan_49 : decode cX12_plan 49 = .ok (.iadd, 1) := by decide +kernel
theorem dX12_plan_50 : decode cX12_plan 50 = .ok (.istore_n 1, 1) := by decide +kernel
theorem dX12_plan_51 : decode cX12_plan 51 = .ok (.iinc 2 1, 3) := by decide +kernel
theorem dX12_plan_54 : decode cX12_plan 54 = .ok (.goto (-31), 3) := by decide +kernel
theorem dX12_plan_57 : decode cX12_plan 57 = .ok (.iload_n 1, 1) := by decide +kernel
theorem dX12_plan_58 : decode cX12_plan 58 = .ok (.ireturn, 1) := by decide +kernel
theorem dX12_revises_0 : decode cX12_revises 0 = .ok (.aload_n 0, 1) := by decide +kernel
theorem dX12_revises_1 : decode cX12_revises 1 = .ok (.invokevirtual 185, 3) := by decide +kernel
theorem dX12_revises_4 : decode cX12_revises 4 = .ok (.iconst 0, 1) := by decide +kernel
theorem dX12_revises_5 : decode cX12_revises 5 = .ok (.istore_n 1, 1) := by decide +kernel
theorem dX12_revises_6 : decode cX12_revises 6 = .ok (.iload_n 1, 1) := by decide +kernel
theorem dX12_revises_7 : decode cX12_revises 7 = .ok (.aload_n 0, 1) := by decide +kernel
theorem dX12_revises_8 : decode cX12_revises 8 = .ok (.getfield 7, 3) := by decide +kernel
theorem dX12_revises_11 : decode cX12_revises 11 = .ok (.sipush 173, 3) := by decide +kernel
theorem dX12_revises_14 : decode cX12_revises 14 = .ok (.iaload, 1) := by decide +kernel
theorem dX12_revises_15 : decode cX12_revises 15 = .ok (.if_icmp .ge 102, 3) := by decide +kernel
theorem dX12_revises_18 : decode cX12_revises 18 = .ok (.aload_n 0, 1) := by decide +kernel
theorem dX12_revises_19 : decode cX12_revises 19 = .ok (.getfield 30, 3) := by decide +kernel
theorem dX12_revises_22 : decode cX12_revises 22 = .ok (.iload_n 1, 1) := by decide +kernel
theorem dX12_revises_23 : decode cX12_revises 23 = .ok (.aload_n 0, 1) := by decide +kernel
theorem dX12_revises_24 : decode cX12_revises 24 = .ok (.iload_n 1, 1) := by decide +kernel
theorem dX12_revises_25 : decode cX12_revises 25 = .ok (.invokevirtual 144, 3) := by decide +kernel
theorem dX12_revises_28 : decode cX12_revises 28 = .ok (.ifCond .eq 12, 3) := by decide +kernel
theorem dX12_revises_31 : decode cX12_revises 31 = .ok (.aload_n 0, 1) := by decide +kernel
theorem dX12_revises_32 : decode cX12_revises 32 = .ok (.iload_n 1, 1) := by decide +kernel
theorem dX12_revises_33 : decode cX12_revises 33 = .ok (.iconst 4, 1) := by decide +kernel
theorem dX12_revises_34 : decode cX12_revises 34 = .ok (.invokevirtual 128, 3) := by decide +kernel
theorem dX12_revises_37 : decode cX12_revises 37 = .ok (.goto 4, 3) := by decide +kernel
theorem dX12_revises_40 : decode cX12_revises 40 = .ok (.iconst (-1), 1) := by decide +kernel
theorem dX12_revises_41 : decode cX12_revises 41 = .ok (.iastore, 1) := by decide +kernel
theorem dX12_revises_42 : decode cX12_revises 42 = .ok (.aload_n 0, 1) := by decide +kernel
theorem dX12_revises_43 : decode cX12_revises 43 = .ok (.getfield 27, 3) := by decide +kernel
theorem dX12_revises_46 : decode cX12_revises 46 = .ok (.iload_n 1, 1) := by decide +kernel
theorem dX12_revises_47 : decode cX12_revises 47 = .ok (.aload_n 0, 1) := by decide +kernel
theorem dX12_revises_48 : decode cX12_revises 48 = .ok (.iload_n 1, 1) := by decide +kernel
theorem dX12_revises_49 : decode cX12_revises 49 = .ok (.bipush 7, 2) := by decide +kernel
theorem dX12_revises_51 : decode cX12_revises 51 = .ok (.invokevirtual 128, 3) := by decide +kernel
theorem dX12_revises_54 : decode cX12_revises 54 = .ok (.iconst 1, 1) := by decide +kernel
theorem dX12_revises_55 : decode cX12_revises 55 = .ok (.if_icmp .ne 7, 3) := by decide +kernel
theorem dX12_revises_58 : decode cX12_revises 58 = .ok (.iconst 1, 1) := by decide +kernel
theorem dX12_revises_59 : decode cX12_revises 59 = .ok (.goto 4, 3) := by decide +kernel
theorem dX12_revises_62 : decode cX12_revises 62 = .ok (.iconst 0, 1) := by decide +kernel
theorem dX12_revises_63 : decode cX12_revises 63 = .ok (.bastore, 1) := by decide +kernel
theorem dX12_revises_64 : decode cX12_revises 64 = .ok (.aload_n 0, 1) := by decide +kernel
theorem dX12_revises_65 : decode cX12_revises 65 = .ok (.iload_n 1, 1) := by decide +kernel
theorem dX12_revises_66 : decode cX12_revises 66 = .ok (.invokevirtual 150, 3) := by decide +kernel
theorem dX12_revises_69 : decode cX12_revises 69 = .ok (.ifCond .eq 42, 3) := by decide +kernel
theorem dX12_revises_72 : decode cX12_revises 72 = .ok (.aload_n 0, 1) := by decide +kernel
theorem dX12_revises_73 : decode cX12_revises 73 = .ok (.iload_n 1, 1) := by decide +kernel
theorem dX12_revises_74 : decode cX12_revises 74 = .ok (.iconst 4, 1) := by decide +kernel
theorem dX12_revises_75 : decode cX12_revises 75 = .ok (.invokevirtual 128, 3) := by decide +kernel
theorem dX12_revises_78 : decode cX12_revises 78 = .ok (.aload_n 0, 1) := by decide +kernel
theorem dX12_revises_79 : decode cX12_revises 79 = .ok (.getfield 7, 3) := by decide +kernel
theorem dX12_revises_82 : decode cX12_revises 82 = .ok (.sipush 172, 3) := by decide +kernel
theorem dX12_revises_85 : decode cX12_revises 85 = .ok (.iaload, 1) := by decide +kernel
theorem dX12_revises_86 : decode cX12_revises 86 = .ok (.if_icmp .le 6, 3) := by decide +kernel
theorem dX12_revises_89 : decode cX12_revises 89 = .ok (.goto 22, 3) := by decide +kernel
theorem dX12_revises_92 : decode cX12_revises 92 = .ok (.aload_n 0, 1) := by decide +kernel
theorem dX12_revises_93 : decode cX12_revises 93 = .ok (.getfield 27, 3) := by decide +kernel
theorem dX12_revises_96 : decode cX12_revises 96 = .ok (.iload_n 1, 1) := by decide +kernel
theorem dX12_revises_97 : decode cX12_revises 97 = .ok (.iconst 1, 1) := by decide +kernel
theorem dX12_revises_98 : decode cX12_revises 98 = .ok (.bastore, 1) := by decide +kernel
theorem dX12_revises_99 : decode cX12_revises 99 = .ok (.aload_n 0, 1) := by decide +kernel
theorem dX12_revises_100 : decode cX12_revises 100 = .ok (.getfield 23, 3) := by decide +kernel
theorem dX12_revises_103 : decode cX12_revises 103 = .ok (.aload_n 0, 1) := by decide +kernel
theorem dX12_revises_104 : decode cX12_revises 104 = .ok (.iload_n 1, 1) := by decide +kernel
theorem dX12_revises_105 : decode cX12_revises 105 = .ok (.iconst 4, 1) := by decide +kernel
theorem dX12_revises_106 : decode cX12_revises 106 = .ok (.invokevirtual 128, 3) := by decide +kernel
theorem dX12_revises_109 : decode cX12_revises 109 = .ok (.iconst 1, 1) := by decide +kernel
theorem dX12_revises_110 : decode cX12_revises 110 = .ok (.bastore, 1) := by decide +kernel
theorem dX12_revises_111 : decode cX12_revises 111 = .ok (.iinc 1 1, 3) := by decide +kernel
theorem dX12_revises_114 : decode cX12_revises 114 = .ok (.goto (-108), 3) := by decide +kernel
theorem dX12_revises_117 : decode cX12_revises 117 = .ok (.aload_n 0, 1) := by decide +kernel
theorem dX12_revises_118 : decode cX12_revises 118 = .ok (.iconst 2, 1) := by decide +kernel
theorem dX12_revises_119 : decode cX12_revises 119 = .ok (.iconst 3, 1) := by decide +kernel
theorem dX12_revises_120 : decode cX12_revises 120 = .ok (.iconst (-1), 1) := by decide +kernel
theorem dX12_revises_121 : decode cX12_revises 121 = .ok (.invokevirtual 178, 3) := by decide +kernel
theorem dX12_revises_124 : decode cX12_revises 124 = .ok (.istore_n 1, 1) := by decide +kernel
theorem dX12_revises_125 : decode cX12_revises 125 = .ok (.iload_n 1, 1) := by decide +kernel
theorem dX12_revises_126 : decode cX12_revises 126 = .ok (.iconst (-1), 1) := by decide +kernel
theorem dX12_revises_127 : decode cX12_revises 127 = .ok (.if_icmp .eq 71, 3) := by decide +kernel
theorem dX12_revises_130 : decode cX12_revises 130 = .ok (.aload_n 0, 1) := by decide +kernel
theorem dX12_revises_131 : decode cX12_revises 131 = .ok (.iload_n 1, 1) := by decide +kernel
theorem dX12_revises_132 : decode cX12_revises 132 = .ok (.iconst 1, 1) := by decide +kernel
theorem dX12_revises_133 : decode cX12_revises 133 = .ok (.invokevirtual 128, 3) := by decide +kernel
theorem dX12_revises_136 : decode cX12_revises 136 = .ok (.aload_n 0, 1) := by decide +kernel
theorem dX12_revises_137 : decode cX12_revises 137 = .ok (.iload_n 1, 1) := by decide +kernel
theorem dX12_revises_138 : decode cX12_revises 138 = .ok (.iconst 5, 1) := by decide +kernel
theorem dX12_revises_139 : decode cX12_revises 139 = .ok (.invokevirtual 128, 3) := by decide +kernel
theorem dX12_revises_142 : decode cX12_revises 142 = .ok (.iadd, 1) := by decide +kernel
theorem dX12_revises_143 : decode cX12_revises 143 = .ok (.istore_n 2, 1) := by decide +kernel
theorem dX12_revises_144 : decode cX12_revises 144 = .ok (.aload_n 0, 1) := by decide +kernel
theorem dX12_revises_145 : decode cX12_revises 145 = .ok (.iload_n 2, 1) := by decide +kernel
theorem dX12_revises_146 : decode cX12_revises 146 = .ok (.aload_n 0, 1) := by decide +kernel
theorem dX12_revises_147 : decode cX12_revises 147 = .ok (.getfield 7, 3) := by decide +kernel
theorem dX12_revises_150 : decode cX12_revises 150 = .ok (.sipush 172, 3) := by decide +kernel
theorem dX12_revises_153 : decode cX12_revises 153 = .ok (.iaload, 1) := by decide +kernel
theorem dX12_revises_154 : decode cX12_revises 154 = .ok (.iconst 1, 1) := by decide +kernel
theorem dX12_revises_155 : decode cX12_revises 155 = .ok (.iadd, 1) := by decide +kernel
theorem dX12_revises_156 : decode cX12_revises 156 = .ok (.invokestatic 141, 3) := by decide +kernel
theorem dX12_revises_159 : decode cX12_revises 159 = .ok (.invokevirtual 171, 3) := by decide +kernel
theorem dX12_revises_162 : decode cX12_revises 162 = .ok (.istore_n 3, 1) := by decide +kernel
theorem dX12_revises_163 : decode cX12_revises 163 = .ok (.aload_n 0, 1) := by decide +kernel
theorem dX12_revises_164 : decode cX12_revises 164 = .ok (.iload_n 1, 1) := by decide +kernel
theorem dX12_revises_165 : decode cX12_revises 165 = .ok (.iconst 4, 1) := by decide +kernel
theorem dX12_revises_166 : decode cX12_revises 166 = .ok (.iload_n 3, 1) := by decide +kernel
theorem dX12_revises_167 : decode cX12_revises 167 = .ok (.invokevirtual 90, 3) := by decide +kernel
theorem dX12_revises_170 : decode cX12_revises 170 = .ok (.aload_n 0, 1) := by decide +kernel
theorem dX12_revises_171 : decode cX12_revises 171 = .ok (.iload_n 1, 1) := by decide +kernel
theorem dX12_revises_172 : decode cX12_revises 172 = .ok (.bipush 6, 2) := by decide +kernel
theorem dX12_revises_174 : decode cX12_revises 174 = .ok (.iload_n 3, 1) := by decide +kernel
theorem dX12_revises_175 : decode cX12_revises 175 = .ok (.iload_n 2, 1) := by decide +kernel
theorem dX12_revises_176 : decode cX12_revises 176 = .ok (.isub, 1) := by decide +kernel
theorem dX12_revises_177 : decode cX12_revises 177 = .ok (.invokevirtual 90, 3) := by decide +kernel
theorem dX12_revises_180 : decode cX12_revises 180 = .ok (.aload_n 0, 1) := by decide +kernel
theorem dX12_revises_181 : decode cX12_revises 181 = .ok (.getfield 27, 3) := by decide +kernel
theorem dX12_revises_184 : decode cX12_revises 184 = .ok (.iload_n 1, 1) := by decide +kernel
theorem dX12_revises_185 : decode cX12_revises 185 = .ok (.iconst 1, 1) := by decide +kernel
theorem dX12_revises_186 : decode cX12_revises 186 = .ok (.bastore, 1) := by decide +kernel
theorem dX12_revises_187 : decode cX12_revises 187 = .ok (.aload_n 0, 1) := by decide +kernel
theorem dX12_revises_188 : decode cX12_revises 188 = .ok (.iconst 2, 1) := by decide +kernel
theorem dX12_revises_189 : decode cX12_revises 189 = .ok (.iconst 3, 1) := by decide +kernel
theorem dX12_revises_190 : decode cX12_revises 190 = .ok (.iconst (-1), 1) := by decide +kernel
theorem dX12_revises_191 : decode cX12_revises 191 = .ok (.invokevirtual 178, 3) := by decide +kernel
theorem dX12_revises_194 : decode cX12_revises 194 = .ok (.istore_n 1, 1) := by decide +kernel
theorem dX12_revises_195 : decode cX12_revises 195 = .ok (.goto (-70), 3) := by decide +kernel
theorem dX12_revises_198 : decode cX12_revises 198 = .ok (.aload_n 0, 1) := by decide +kernel
theorem dX12_revises_199 : decode cX12_revises 199 = .ok (.iconst 3, 1) := by decide +kernel
theorem dX12_revises_200 : decode cX12_revises 200 = .ok (.iconst 0, 1) := by decide +kernel
theorem dX12_revises_201 : decode cX12_revises 201 = .ok (.iconst (-1), 1) := by decide +kernel
theorem dX12_revises_202 : decode cX12_revises 202 = .ok (.invokevirtual 178, 3) := by decide +kernel
theorem dX12_revises_205 : decode cX12_revises 205 = .ok (.istore_n 1, 1) := by decide +kernel
theorem dX12_revises_206 : decode cX12_revises 206 = .ok (.iload_n 1, 1) := by decide +kernel
theorem dX12_revises_207 : decode cX12_revises 207 = .ok (.iconst (-1), 1) := by decide +kernel
theorem dX12_revises_208 : decode cX12_revises 208 = .ok (.if_icmp .eq 19, 3) := by decide +kernel
theorem dX12_revises_211 : decode cX12_revises 211 = .ok (.aload_n 0, 1) := by decide +kernel
theorem dX12_revises_212 : decode cX12_revises 212 = .ok (.iload_n 1, 1) := by decide +kernel
theorem dX12_revises_213 : decode cX12_revises 213 = .ok (.invokevirtual 182, 3) := by decide +kernel
theorem dX12_revises_216 : decode cX12_revises 216 = .ok (.aload_n 0, 1) := by decide +kernel
theorem dX12_revises_217 : decode cX12_revises 217 = .ok (.iconst 3, 1) := by decide +kernel
theorem dX12_revises_218 : decode cX12_revises 218 = .ok (.iconst 0, 1) := by decide +kernel
theorem dX12_revises_219 : decode cX12_revises 219 = .ok (.iconst (-1), 1) := by decide +kernel
theorem dX12_revises_220 : decode cX12_revises 220 = .ok (.invokevirtual 178, 3) := by decide +kernel
theorem dX12_revises_223 : decode cX12_revises 223 = .ok (.istore_n 1, 1) := by decide +kernel
theorem dX12_revises_224 : decode cX12_revises 224 = .ok (.goto (-18), 3) := by decide +kernel
theorem dX12_revises_227 : decode cX12_revises 227 = .ok (.aload_n 0, 1) := by decide +kernel
theorem dX12_revises_228 : decode cX12_revises 228 = .ok (.invokevirtual 87, 3) := by decide +kernel
theorem dX12_revises_231 : decode cX12_revises 231 = .ok (.return_, 1) := by decide +kernel
theorem dX12_revise_0 : decode cX12_revise 0 = .ok (.aload_n 0, 1) := by decide +kernel
theorem dX12_revise_1 : decode cX12_revise 1 = .ok (.getfield 7, 3) := by decide +kernel
theorem dX12_revise_4 : decode cX12_revise 4 = .ok (.sipush 174, 3) := by decide +kernel
theorem dX12_revise_7 : decode cX12_revise 7 = .ok (.iaload, 1) := by decide +kernel
theorem dX12_revise_8 : decode cX12_revise 8 = .ok (.ifCond .ne 6, 3) := by decide +kernel
theorem dX12_revise_11 : decode cX12_revise 11 = .ok (.bipush (-2), 2) := by decide +kernel
theorem dX12_revise_13 : decode cX12_revise 13 = .ok (.ireturn, 1) := by decide +kernel
theorem dX12_revise_14 : decode cX12_revise 14 = .ok (.aload_n 0, 1) := by decide +kernel
theorem dX12_revise_15 : decode cX12_revise 15 = .ok (.invokevirtual 197, 3) := by decide +kernel
theorem dX12_revise_18 : decode cX12_revise 18 = .ok (.iconst 0, 1) := by decide +kernel
theorem dX12_revise_19 : decode cX12_revise 19 = .ok (.istore_n 1, 1) := by decide +kernel
theorem dX12_revise_20 : decode cX12_revise 20 = .ok (.iconst 0, 1) := by decide +kernel
theorem dX12_revise_21 : decode cX12_revise 21 = .ok (.istore_n 2, 1) := by decide +kernel
theorem dX12_revise_22 : decode cX12_revise 22 = .ok (.iload_n 2, 1) := by decide +kernel
theorem dX12_revise_23 : decode cX12_revise 23 = .ok (.aload_n 0, 1) := by decide +kernel
theorem dX12_revise_24 : decode cX12_revise 24 = .ok (.getfield 7, 3) := by decide +kernel
theorem dX12_revise_27 : decode cX12_revise 27 = .ok (.sipush 173, 3) := by decide +kernel
theorem dX12_revise_30 : decode cX12_revise 30 = .ok (.iaload, 1) := by decide +kernel
theorem dX12_revise_31 : decode cX12_revise 31 = .ok (.if_icmp .ge 40, 3) := by decide +kernel
theorem dX12_revise_34 : decode cX12_revise 34 = .ok (.iload_n 1, 1) := by decide +kernel
theorem dX12_revise_35 : decode cX12_revise 35 = .ok (.aload_n 0, 1) := by decide +kernel
theorem dX12_revise_36 : decode cX12_revise 36 = .ok (.iload_n 2, 1) := by decide +kernel
theorem dX12_revise_37 : decode cX12_revise 37 = .ok (.invokevirtual 144, 3) := by decide +kernel
theorem dX12_revise_40 : decode cX12_revise 40 = .ok (.ifCond .eq 22, 3) := by decide +kernel
theorem dX12_revise_43 : decode cX12_revise 43 = .ok (.aload_n 0, 1) := by decide +kernel
theorem dX12_revise_44 : decode cX12_revise 44 = .ok (.iload_n 2, 1) := by decide +kernel
theorem dX12_revise_45 : decode cX12_revise 45 = .ok (.iconst 4, 1) := by decide +kernel
theorem dX12_revise_46 : decode cX12_revise 46 = .ok (.invokevirtual 128, 3) := by decide +kernel
theorem dX12_revise_49 : decode cX12_revise 49 = .ok (.aload_n 0, 1) := by decide +kernel
theorem dX12_revise_50 : decode cX12_revise 50 = .ok (.getfield 30, 3) := by decide +kernel
theorem dX12_revise_53 : decode cX12_revise 53 = .ok (.iload_n 2, 1) := by decide +kernel
theorem dX12_revise_54 : decode cX12_revise 54 = .ok (.iaload, 1) := by decide +kernel
theorem dX12_revise_55 : decode cX12_revise 55 = .ok (.if_icmp .eq 7, 3) := by decide +kernel
theorem dX12_revise_58 : decode cX12_revise 58 = .ok (.iconst 1, 1) := by decide +kernel
theorem dX12_revise_59 : decode cX12_revise 59 = .ok (.goto 4, 3) := by decide +kernel
theorem dX12_revise_62 : decode cX12_revise 62 = .ok (.iconst 0, 1) := by decide +kernel
theorem dX12_revise_63 : decode cX12_revise 63 = .ok (.iadd, 1) := by decide +kernel
theorem dX12_revise_64 : decode cX12_revise 64 = .ok (.istore_n 1, 1) := by decide +kernel
theorem dX12_revise_65 : decode cX12_revise 65 = .ok (.iinc 2 1, 3) := by decide +kernel
theorem dX12_revise_68 : decode cX12_revise 68 = .ok (.goto (-46), 3) := by decide +kernel
theorem dX12_revise_71 : decode cX12_revise 71 = .ok (.iload_n 1, 1) := by decide +kernel
theorem dX12_revise_72 : decode cX12_revise 72 = .ok (.ireturn, 1) := by decide +kernel
theorem dX12_cancels_0 : decode cX12_cancels 0 = .ok (.aload_n 0, 1) := by decide +kernel
theorem dX12_cancels_1 : decode cX12_cancels 1 = .ok (.getfield 7, 3) := by decide +kernel
theorem dX12_cancels_4 : decode cX12_cancels 4 = .ok (.sipush 252, 3) := by decide +kernel
theorem dX12_cancels_7 : decode cX12_cancels 7 = .ok (.aload_n 0, 1) := by decide +kernel
theorem dX12_cancels_8 : decode cX12_cancels 8 = .ok (.iload_n 1, 1) := by decide +kernel
theorem dX12_cancels_9 : decode cX12_cancels 9 = .ok (.iconst 4, 1) := by decide +kernel
theorem dX12_cancels_10 : decode cX12_cancels 10 = .ok (.invokevirtual 128, 3) := by decide +kernel
theorem dX12_cancels_13 : decode cX12_cancels 13 = .ok (.iadd, 1) := by decide +kernel
theorem dX12_cancels_14 : decode cX12_cancels 14 = .ok (.aload_n 0, 1) := by decide +kernel
theorem dX12_cancels_15 : decode cX12_cancels 15 = .ok (.iload_n 1, 1) := by decide +kernel
theorem dX12_cancels_16 : decode cX12_cancels 16 = .ok (.iconst 0, 1) := by decide +kernel
theorem dX12_cancels_17 : decode cX12_cancels 17 = .ok (.invokevirtual 128, 3) := by decide +kernel
theorem dX12_cancels_20 : decode cX12_cancels 20 = .ok (.iconst 1, 1) := by decide +kernel
theorem dX12_cancels_21 : decode cX12_cancels 21 = .ok (.iadd, 1) := by decide +kernel
theorem dX12_cancels_22 : decode cX12_cancels 22 = .ok (.iastore, 1) := by decide +kernel
theorem dX12_cancels_23 : decode cX12_cancels 23 = .ok (.aload_n 0, 1) := by decide +kernel
theorem dX12_cancels_24 : decode cX12_cancels 24 = .ok (.iload_n 1, 1) := by decide +kernel
theorem dX12_cancels_25 : decode cX12_cancels 25 = .ok (.bipush 7, 2) := by decide +kernel
theorem dX12_cancels_27 : decode cX12_cancels 27 = .ok (.iconst 1, 1) := by decide +kernel
theorem dX12_cancels_28 : decode cX12_cancels 28 = .ok (.invokevirtual 90, 3) := by decide +kernel
theorem dX12_cancels_31 : decode cX12_cancels 31 = .ok (.return_, 1) := by decide +kernel
theorem dX12_cancel_0 : decode cX12_cancel 0 = .ok (.aload_n 0, 1) := by decide +kernel
theorem dX12_cancel_1 : decode cX12_cancel 1 = .ok (.iload_n 1, 1) := by decide +kernel
theorem dX12_cancel_2 : decode cX12_cancel 2 = .ok (.invokevirtual 153, 3) := by decide +kernel
theorem dX12_cancel_5 : decode cX12_cancel 5 = .ok (.ifCond .ne 5, 3) := by decide +kernel
theorem dX12_cancel_8 : decode cX12_cancel 8 = .ok (.iconst (-1), 1) := by decide +kernel
theorem dX12_cancel_9 : decode cX12_cancel 9 = .ok (.ireturn, 1) := by decide +kernel
theorem dX12_cancel_10 : decode cX12_cancel 10 = .ok (.aload_n 0, 1) := by decide +kernel
theorem dX12_cancel_11 : decode cX12_cancel 11 = .ok (.iload_n 1, 1) := by decide +kernel
theorem dX12_cancel_12 : decode cX12_cancel 12 = .ok (.invokevirtual 144, 3) := by decide +kernel
theorem dX12_cancel_15 : decode cX12_cancel 15 = .ok (.ifCond .ne 6, 3) := by decide +kernel
theorem dX12_cancel_18 : decode cX12_cancel 18 = .ok (.bipush (-2), 2) := by decide +kernel
theorem dX12_cancel_20 : decode cX12_cancel 20 = .ok (.ireturn, 1) := by decide +kernel
theorem dX12_cancel_21 : decode cX12_cancel 21 = .ok (.aload_n 0, 1) := by decide +kernel
theorem dX12_cancel_22 : decode cX12_cancel 22 = .ok (.iload_n 1, 1) := by decide +kernel
theorem dX12_cancel_23 : decode cX12_cancel 23 = .ok (.invokevirtual 150, 3) := by decide +kernel
theorem dX12_cancel_26 : decode cX12_cancel 26 = .ok (.ifCond .eq 6, 3) := by decide +kernel
theorem dX12_cancel_29 : decode cX12_cancel 29 = .ok (.bipush (-3), 2) := by decide +kernel
theorem dX12_cancel_31 : decode cX12_cancel 31 = .ok (.ireturn, 1) := by decide +kernel
theorem dX12_cancel_32 : decode cX12_cancel 32 = .ok (.aload_n 0, 1) := by decide +kernel
theorem dX12_cancel_33 : decode cX12_cancel 33 = .ok (.iload_n 1, 1) := by decide +kernel
theorem dX12_cancel_34 : decode cX12_cancel 34 = .ok (.invokevirtual 200, 3) := by decide +kernel
theorem dX12_cancel_37 : decode cX12_cancel 37 = .ok (.aload_n 0, 1) := by decide +kernel
theorem dX12_cancel_38 : decode cX12_cancel 38 = .ok (.iload_n 1, 1) := by decide +kernel
theorem dX12_cancel_39 : decode cX12_cancel 39 = .ok (.iconst 4, 1) := by decide +kernel
theorem dX12_cancel_40 : decode cX12_cancel 40 = .ok (.invokevirtual 128, 3) := by decide +kernel
theorem dX12_cancel_43 : decode cX12_cancel 43 = .ok (.ireturn, 1) := by decide +kernel
theorem dX12_lineCost_0 : decode cX12_lineCost 0 = .ok (.iconst 0, 1) := by decide +kernel
theorem dX12_lineCost_1 : decode cX12_lineCost 1 = .ok (.istore_n 2, 1) := by decide +kernel
theorem dX12_lineCost_2 : decode cX12_lineCost 2 = .ok (.iconst 0, 1) := by decide +kernel
theorem dX12_lineCost_3 : decode cX12_lineCost 3 = .ok (.istore_n 3, 1) := by decide +kernel
theorem dX12_lineCost_4 : decode cX12_lineCost 4 = .ok (.iload_n 3, 1) := by decide +kernel
theorem dX12_lineCost_5 : decode cX12_lineCost 5 = .ok (.aload_n 0, 1) := by decide +kernel
theorem dX12_lineCost_6 : decode cX12_lineCost 6 = .ok (.getfield 7, 3) := by decide +kernel
theorem dX12_lineCost_9 : decode cX12_lineCost 9 = .ok (.sipush 173, 3) := by decide +kernel
theorem dX12_lineCost_12 : decode cX12_lineCost 12 = .ok (.iaload, 1) := by decide +kernel
theorem dX12_lineCost_13 : decode cX12_lineCost 13 = .ok (.if_icmp .ge 31, 3) := by decide +kernel
theorem dX12_lineCost_16 : decode cX12_lineCost 16 = .ok (.iload_n 2, 1) := by decide +kernel
theorem dX12_lineCost_17 : decode cX12_lineCost 17 = .ok (.aload_n 0, 1) := by decide +kernel
theorem dX12_lineCost_18 : decode cX12_lineCost 18 = .ok (.iload_n 3, 1) := by decide +kernel
theorem dX12_lineCost_19 : decode cX12_lineCost 19 = .ok (.iconst 0, 1) := by decide +kernel
theorem dX12_lineCost_20 : decode cX12_lineCost 20 = .ok (.invokevirtual 128, 3) := by decide +kernel
theorem dX12_lineCost_23 : decode cX12_lineCost 23 = .ok (.iload_n 1, 1) := by decide +kernel
theorem dX12_lineCost_24 : decode cX12_lineCost 24 = .ok (.if_icmp .ne 11, 3) := by decide +kernel
theorem dX12_lineCost_27 : decode cX12_lineCost 27 = .ok (.aload_n 0, 1) := by decide +kernel
theorem dX12_lineCost_28 : decode cX12_lineCost 28 = .ok (.iload_n 3, 1) := by decide +kernel
theorem dX12_lineCost_29 : decode cX12_lineCost 29 = .ok (.invokevirtual 159, 3) := by decide +kernel
theorem dX12_lineCost_32 : decode cX12_lineCost 32 = .ok (.goto 4, 3) := by decide +kernel
theorem dX12_lineCost_35 : decode cX12_lineCost 35 = .ok (.iconst 0, 1) := by decide +kernel
theorem dX12_lineCost_36 : decode cX12_lineCost 36 = .ok (.iadd, 1) := by decide +kernel
theorem dX12_lineCost_37 : decode cX12_lineCost 37 = .ok (.istore_n 2, 1) := by decide +kernel
theorem dX12_lineCost_38 : decode cX12_lineCost 38 = .ok (.iinc 3 1, 3) := by decide +kernel
theorem dX12_lineCost_41 : decode cX12_lineCost 41 = .ok (.goto (-37), 3) := by decide +kernel
theorem dX12_lineCost_44 : decode cX12_lineCost 44 = .ok (.iload_n 2, 1) := by decide +kernel
theorem dX12_lineCost_45 : decode cX12_lineCost 45 = .ok (.ireturn, 1) := by decide +kernel
theorem dX12_allCost_0 : decode cX12_allCost 0 = .ok (.iconst 0, 1) := by decide +kernel
theorem dX12_allCost_1 : decode cX12_allCost 1 = .ok (.istore_n 1, 1) := by decide +kernel
theorem dX12_allCost_2 : decode cX12_allCost 2 = .ok (.iconst 0, 1) := by decide +kernel
theorem dX12_allCost_3 : decode cX12_allCost 3 = .ok (.istore_n 2, 1) := by decide +kernel
theorem dX12_allCost_4 : decode cX12_allCost 4 = .ok (.iload_n 2, 1) := by decide +kernel
theorem dX12_allCost_5 : decode cX12_allCost 5 = .ok (.aload_n 0, 1) := by decide +kernel
theorem dX12_allCost_6 : decode cX12_allCost 6 = .ok (.getfield 7, 3) := by decide +kernel
theorem dX12_allCost_9 : decode cX12_allCost 9 = .ok (.sipush 173, 3) := by decide +kernel
theorem dX12_allCost_12 : decode cX12_allCost 12 = .ok (.iaload, 1) := by decide +kernel
theorem dX12_allCost_13 : decode cX12_allCost 13 = .ok (.if_icmp .ge 17, 3) := by decide +kernel
theorem dX12_allCost_16 : decode cX12_allCost 16 = .ok (.iload_n 1, 1) := by decide +kernel
theorem dX12_allCost_17 : decode cX12_allCost 17 = .ok (.aload_n 0, 1) := by decide +kernel
theorem dX12_allCost_18 : decode cX12_allCost 18 = .ok (.iload_n 2, 1) := by decide +kernel
theorem dX12_allCost_19 : decode cX12_allCost 19 = .ok (.invokevirtual 159, 3) := by decide +kernel
theorem dX12_allCost_22 : decode cX12_allCost 22 = .ok (.iadd, 1) := by decide +kernel
theorem dX12_allCost_23 : decode cX12_allCost 23 = .ok (.istore_n 1, 1) := by decide +kernel
theorem dX12_allCost_24 : decode cX12_allCost 24 = .ok (.iinc 2 1, 3) := by decide +kernel
theorem dX12_allCost_27 : decode cX12_allCost 27 = .ok (.goto (-23), 3) := by decide +kernel
theorem dX12_allCost_30 : decode cX12_allCost 30 = .ok (.iload_n 1, 1) := by decide +kernel
theorem dX12_allCost_31 : decode cX12_allCost 31 = .ok (.ireturn, 1) := by decide +kernel
theorem dX12_swaps_0 : decode cX12_swaps 0 = .ok (.aload_n 0, 1) := by decide +kernel
theorem dX12_swaps_1 : decode cX12_swaps 1 = .ok (.iload_n 1, 1) := by decide +kernel
theorem dX12_swaps_2 : decode cX12_swaps 2 = .ok (.iconst 4, 1) := by decide +kernel
theorem dX12_swaps_3 : decode cX12_swaps 3 = .ok (.invokevirtual 128, 3) := by decide +kernel
theorem dX12_swaps_6 : decode cX12_swaps 6 = .ok (.istore_n 3, 1) := by decide +kernel
theorem dX12_swaps_7 : decode cX12_swaps 7 = .ok (.aload_n 0, 1) := by decide +kernel
theorem dX12_swaps_8 : decode cX12_swaps 8 = .ok (.iload_n 1, 1) := by decide +kernel
theorem dX12_swaps_9 : decode cX12_swaps 9 = .ok (.aload_n 0, 1) := by decide +kernel
theorem dX12_swaps_10 : decode cX12_swaps 10 = .ok (.iload_n 2, 1) := by decide +kernel
theorem dX12_swaps_11 : decode cX12_swaps 11 = .ok (.iconst 4, 1) := by decide +kernel
theorem dX12_swaps_12 : decode cX12_swaps 12 = .ok (.invokevirtual 128, 3) := by decide +kernel
theorem dX12_swaps_15 : decode cX12_swaps 15 = .ok (.invokevirtual 174, 3) := by decide +kernel
theorem dX12_swaps_18 : decode cX12_swaps 18 = .ok (.aload_n 0, 1) := by decide +kernel
theorem dX12_swaps_19 : decode cX12_swaps 19 = .ok (.iload_n 2, 1) := by decide +kernel
theorem dX12_swaps_20 : decode cX12_swaps 20 = .ok (.iload_n 3, 1) := by decide +kernel
theorem dX12_swaps_21 : decode cX12_swaps 21 = .ok (.invokevirtual 174, 3) := by decide +kernel
theorem dX12_swaps_24 : decode cX12_swaps 24 = .ok (.return_, 1) := by decide +kernel
theorem dX12_isGroundFlight_0 : decode cX12_isGroundFlight 0 = .ok (.aload_n 0, 1) := by decide +kernel
theorem dX12_isGroundFlight_1 : decode cX12_isGroundFlight 1 = .ok (.iload_n 1, 1) := by decide +kernel
theorem dX12_isGroundFlight_2 : decode cX12_isGroundFlight 2 = .ok (.invokevirtual 153, 3) := by decide +kernel
theorem dX12_isGroundFlight_5 : decode cX12_isGroundFlight 5 = .ok (.ifCond .eq 15, 3) := by decide +kernel
theorem dX12_isGroundFlight_8 : decode cX12_isGroundFlight 8 = .ok (.aload_n 0, 1) := by decide +kernel
theorem dX12_isGroundFlight_9 : decode cX12_isGroundFlight 9 = .ok (.iload_n 1, 1) := by decide +kernel
theorem dX12_isGroundFlight_10 : decode cX12_isGroundFlight 10 = .ok (.invokevirtual 203, 3) := by decide +kernel
theorem dX12_isGroundFlight_13 : decode cX12_isGroundFlight 13 = .ok (.ifCond .eq 7, 3) := by decide +kernel
theorem dX12_isGroundFlight_16 : decode cX12_isGroundFlight 16 = .ok (.iconst 1, 1) := by decide +kernel
theorem dX12_isGroundFlight_17 : decode cX12_isGroundFlight 17 = .ok (.goto 4, 3) := by decide +kernel
theorem dX12_isGroundFlight_20 : decode cX12_isGroundFlight 20 = .ok (.iconst 0, 1) := by decide +kernel
theorem dX12_isGroundFlight_21 : decode cX12_isGroundFlight 21 = .ok (.ireturn, 1) := by decide +kernel
theorem dX12_exchange_0 : decode cX12_exchange 0 = .ok (.aload_n 0, 1) := by decide +kernel
theorem dX12_exchange_1 : decode cX12_exchange 1 = .ok (.iload_n 1, 1) := by decide +kernel
theorem dX12_exchange_2 : decode cX12_exchange 2 = .ok (.invokevirtual 206, 3) := by decide +kernel
theorem dX12_exchange_5 : decode cX12_exchange 5 = .ok (.ifCond .eq 59, 3) := by decide +kernel
theorem dX12_exchange_8 : decode cX12_exchange 8 = .ok (.aload_n 0, 1) := by decide +kernel
theorem dX12_exchange_9 : decode cX12_exchange 9 = .ok (.iload_n 2, 1) := by decide +kernel
theorem dX12_exchange_10 : decode cX12_exchange 10 = .ok (.invokevirtual 206, 3) := by decide +kernel
theorem dX12_exchange_13 : decode cX12_exchange 13 = .ok (.ifCond .eq 51, 3) := by decide +kernel
theorem dX12_exchange_16 : decode cX12_exchange 16 = .ok (.iload_n 1, 1) := by decide +kernel
theorem dX12_exchange_17 : decode cX12_exchange 17 = .ok (.iload_n 2, 1) := by decide +kernel
theorem dX12_exchange_18 : decode cX12_exchange 18 = .ok (.if_icmp .eq 46, 3) := by decide +kernel
theorem dX12_exchange_21 : decode cX12_exchange 21 = .ok (.aload_n 0, 1) := by decide +kernel
theorem dX12_exchange_22 : decode cX12_exchange 22 = .ok (.iload_n 1, 1) := by decide +kernel
theorem dX12_exchange_23 : decode cX12_exchange 23 = .ok (.iconst 0, 1) := by decide +kernel
theorem dX12_exchange_24 : decode cX12_exchange 24 = .ok (.invokevirtual 128, 3) := by decide +kernel
theorem dX12_exchange_27 : decode cX12_exchange 27 = .ok (.aload_n 0, 1) := by decide +kernel
theorem dX12_exchange_28 : decode cX12_exchange 28 = .ok (.iload_n 2, 1) := by decide +kernel
theorem dX12_exchange_29 : decode cX12_exchange 29 = .ok (.iconst 0, 1) := by decide +kernel
theorem dX12_exchange_30 : decode cX12_exchange 30 = .ok (.invokevirtual 128, 3) := by decide +kernel
theorem dX12_exchange_33 : decode cX12_exchange 33 = .ok (.if_icmp .ne 31, 3) := by decide +kernel
theorem dX12_exchange_36 : decode cX12_exchange 36 = .ok (.aload_n 0, 1) := by decide +kernel
theorem dX12_exchange_37 : decode cX12_exchange 37 = .ok (.iload_n 1, 1) := by decide +kernel
theorem dX12_exchange_38 : decode cX12_exchange 38 = .ok (.iconst 4, 1) := by decide +kernel
theorem dX12_exchange_39 : decode cX12_exchange 39 = .ok (.invokevirtual 128, 3) := by decide +kernel
theorem dX12_exchange_42 : decode cX12_exchange 42 = .ok (.aload_n 0, 1) := by decide +kernel
theorem dX12_exchange_43 : decode cX12_exchange 43 = .ok (.iload_n 2, 1) := by decide +kernel
theorem dX12_exchange_44 : decode cX12_exchange 44 = .ok (.invokevirtual 156, 3) := by decide +kernel
theorem dX12_exchange_47 : decode cX12_exchange 47 = .ok (.if_icmp .lt 17, 3) := by decide +kernel
theorem dX12_exchange_50 : decode cX12_exchange 50 = .ok (.aload_n 0, 1) := by decide +kernel
theorem dX12_exchange_51 : decode cX12_exchange 51 = .ok (.iload_n 2, 1) := by decide +kernel
theorem dX12_exchange_52 : decode cX12_exchange 52 = .ok (.iconst 4, 1) := by decide +kernel
theorem dX12_exchange_53 : decode cX12_exchange 53 = .ok (.invokevirtual 128, 3) := by decide +kernel
theorem dX12_exchange_56 : decode cX12_exchange 56 = .ok (.aload_n 0, 1) := by decide +kernel
theorem dX12_exchange_57 : decode cX12_exchange 57 = .ok (.iload_n 1, 1) := by decide +kernel
theorem dX12_exchange_58 : decode cX12_exchange 58 = .ok (.invokevirtual 156, 3) := by decide +kernel
theorem dX12_exchange_61 : decode cX12_exchange 61 = .ok (.if_icmp .ge 6, 3) := by decide +kernel
theorem dX12_exchange_64 : decode cX12_exchange 64 = .ok (.ldc 209, 2) := by decide +kernel
theorem dX12_exchange_66 : decode cX12_exchange 66 = .ok (.ireturn, 1) := by decide +kernel
theorem dX12_exchange_67 : decode cX12_exchange 67 = .ok (.aload_n 0, 1) := by decide +kernel
theorem dX12_exchange_68 : decode cX12_exchange 68 = .ok (.invokevirtual 210, 3) := by decide +kernel
theorem dX12_exchange_71 : decode cX12_exchange 71 = .ok (.istore_n 3, 1) := by decide +kernel
theorem dX12_exchange_72 : decode cX12_exchange 72 = .ok (.aload_n 0, 1) := by decide +kernel
theorem dX12_exchange_73 : decode cX12_exchange 73 = .ok (.iload_n 1, 1) := by decide +kernel
theorem dX12_exchange_74 : decode cX12_exchange 74 = .ok (.iload_n 2, 1) := by decide +kernel
theorem dX12_exchange_75 : decode cX12_exchange 75 = .ok (.invokevirtual 213, 3) := by decide +kernel
theorem dX12_exchange_78 : decode cX12_exchange 78 = .ok (.iload_n 3, 1) := by decide +kernel
theorem dX12_exchange_79 : decode cX12_exchange 79 = .ok (.aload_n 0, 1) := by decide +kernel
theorem dX12_exchange_80 : decode cX12_exchange 80 = .ok (.invokevirtual 210, 3) := by decide +kernel
theorem dX12_exchange_83 : decode cX12_exchange 83 = .ok (.isub, 1) := by decide +kernel
theorem dX12_exchange_84 : decode cX12_exchange 84 = .ok (.ireturn, 1) := by decide +kernel
theorem dX12_move_0 : decode cX12_move 0 = .ok (.aload_n 0, 1) := by decide +kernel
theorem dX12_move_1 : decode cX12_move 1 = .ok (.iload_n 1, 1) := by decide +kernel
theorem dX12_move_2 : decode cX12_move 2 = .ok (.invokevirtual 153, 3) := by decide +kernel
theorem dX12_move_5 : decode cX12_move 5 = .ok (.ifCond .eq 10, 3) := by decide +kernel
theorem dX12_move_8 : decode cX12_move 8 = .ok (.iload_n 2, 1) := by decide +kernel
theorem dX12_move_9 : decode cX12_move 9 = .ok (.invokestatic 162, 3) := by decide +kernel
theorem dX12_move_12 : decode cX12_move 12 = .ok (.ifCond .ne 5, 3) := by decide +kernel
theorem dX12_move_15 : decode cX12_move 15 = .ok (.iconst (-1), 1) := by decide +kernel
theorem dX12_move_16 : decode cX12_move 16 = .ok (.ireturn, 1) := by decide +kernel
theorem dX12_move_17 : decode cX12_move 17 = .ok (.aload_n 0, 1) := by decide +kernel
theorem dX12_move_18 : decode cX12_move 18 = .ok (.iload_n 1, 1) := by decide +kernel
theorem dX12_move_19 : decode cX12_move 19 = .ok (.invokevirtual 203, 3) := by decide +kernel
theorem dX12_move_22 : decode cX12_move 22 = .ok (.ifCond .eq 33, 3) := by decide +kernel
theorem dX12_move_25 : decode cX12_move 25 = .ok (.aload_n 0, 1) := by decide +kernel
theorem dX12_move_26 : decode cX12_move 26 = .ok (.getfield 7, 3) := by decide +kernel
theorem dX12_move_29 : decode cX12_move 29 = .ok (.sipush 252, 3) := by decide +kernel
theorem dX12_move_32 : decode cX12_move 32 = .ok (.iload_n 2, 1) := by decide +kernel
theorem dX12_move_33 : decode cX12_move 33 = .ok (.iadd, 1) := by decide +kernel
theorem dX12_move_34 : decode cX12_move 34 = .ok (.iaload, 1) := by decide +kernel
theorem dX12_move_35 : decode cX12_move 35 = .ok (.aload_n 0, 1) := by decide +kernel
theorem dX12_move_36 : decode cX12_move 36 = .ok (.iload_n 1, 1) := by decide +kernel
theorem dX12_move_37 : decode cX12_move 37 = .ok (.iconst 0, 1) := by decide +kernel
theorem dX12_move_38 : decode cX12_move 38 = .ok (.invokevirtual 128, 3) := by decide +kernel
theorem dX12_move_41 : decode cX12_move 41 = .ok (.iconst 1, 1) := by decide +kernel
theorem dX12_move_42 : decode cX12_move 42 = .ok (.iadd, 1) := by decide +kernel
theorem dX12_move_43 : decode cX12_move 43 = .ok (.if_icmp .ne 12, 3) := by decide +kernel
theorem dX12_move_46 : decode cX12_move 46 = .ok (.iload_n 2, 1) := by decide +kernel
theorem dX12_move_47 : decode cX12_move 47 = .ok (.aload_n 0, 1) := by decide +kernel
theorem dX12_move_48 : decode cX12_move 48 = .ok (.iload_n 1, 1) := by decide +kernel
theorem dX12_move_49 : decode cX12_move 49 = .ok (.invokevirtual 156, 3) := by decide +kernel
theorem dX12_move_52 : decode cX12_move 52 = .ok (.if_icmp .ge 6, 3) := by decide +kernel
theorem dX12_move_55 : decode cX12_move 55 = .ok (.bipush (-2), 2) := by decide +kernel
theorem dX12_move_57 : decode cX12_move 57 = .ok (.ireturn, 1) := by decide +kernel
theorem dX12_move_58 : decode cX12_move 58 = .ok (.aload_n 0, 1) := by decide +kernel
theorem dX12_move_59 : decode cX12_move 59 = .ok (.iload_n 1, 1) := by decide +kernel
theorem dX12_move_60 : decode cX12_move 60 = .ok (.iconst 4, 1) := by decide +kernel
theorem dX12_move_61 : decode cX12_move 61 = .ok (.invokevirtual 128, 3) := by decide +kernel
theorem dX12_move_64 : decode cX12_move 64 = .ok (.istore_n 3, 1) := by decide +kernel
theorem dX12_move_65 : decode cX12_move 65 = .ok (.aload_n 0, 1) := by decide +kernel
theorem dX12_move_66 : decode cX12_move 66 = .ok (.getfield 7, 3) := by decide +kernel
theorem dX12_move_69 : decode cX12_move 69 = .ok (.sipush 252, 3) := by decide +kernel
theorem dX12_move_72 : decode cX12_move 72 = .ok (.iload_n 2, 1) := by decide +kernel
theorem dX12_move_73 : decode cX12_move 73 = .ok (.iadd, 1) := by decide +kernel
theorem dX12_move_74 : decode cX12_move 74 = .ok (.iconst 0, 1) := by decide +kernel
theorem dX12_move_75 : decode cX12_move 75 = .ok (.iastore, 1) := by decide +kernel
theorem dX12_move_76 : decode cX12_move 76 = .ok (.aload_n 0, 1) := by decide +kernel
theorem dX12_move_77 : decode cX12_move 77 = .ok (.getfield 7, 3) := by decide +kernel
theorem dX12_move_80 : decode cX12_move 80 = .ok (.sipush 252, 3) := by decide +kernel
theorem dX12_move_83 : decode cX12_move 83 = .ok (.iload_n 3, 1) := by decide +kernel
theorem dX12_move_84 : decode cX12_move 84 = .ok (.iadd, 1) := by decide +kernel
theorem dX12_move_85 : decode cX12_move 85 = .ok (.aload_n 0, 1) := by decide +kernel
theorem dX12_move_86 : decode cX12_move 86 = .ok (.iload_n 1, 1) := by decide +kernel
theorem dX12_move_87 : decode cX12_move 87 = .ok (.iconst 0, 1) := by decide +kernel
theorem dX12_move_88 : decode cX12_move 88 = .ok (.invokevirtual 128, 3) := by decide +kernel
theorem dX12_move_91 : decode cX12_move 91 = .ok (.iconst 1, 1) := by decide +kernel
theorem dX12_move_92 : decode cX12_move 92 = .ok (.iadd, 1) := by decide +kernel
theorem dX12_move_93 : decode cX12_move 93 = .ok (.iastore, 1) := by decide +kernel
theorem dX12_move_94 : decode cX12_move 94 = .ok (.aload_n 0, 1) := by decide +kernel
theorem dX12_move_95 : decode cX12_move 95 = .ok (.iload_n 1, 1) := by decide +kernel
theorem dX12_move_96 : decode cX12_move 96 = .ok (.iload_n 2, 1) := by decide +kernel
theorem dX12_move_97 : decode cX12_move 97 = .ok (.invokevirtual 174, 3) := by decide +kernel
theorem dX12_move_100 : decode cX12_move 100 = .ok (.iload_n 3, 1) := by decide +kernel
theorem dX12_move_101 : decode cX12_move 101 = .ok (.ireturn, 1) := by decide +kernel
theorem dX12_fillerOf_0 : decode cX12_fillerOf 0 = .ok (.iconst (-1), 1) := by decide +kernel
theorem dX12_fillerOf_1 : decode cX12_fillerOf 1 = .ok (.istore_n 3, 1) := by decide +kernel
theorem dX12_fillerOf_2 : decode cX12_fillerOf 2 = .ok (.iconst 0, 1) := by decide +kernel
theorem dX12_fillerOf_3 : decode cX12_fillerOf 3 = .ok (.istore 4, 2) := by decide +kernel
theorem dX12_fillerOf_5 : decode cX12_fillerOf 5 = .ok (.iload 4, 2) := by decide +kernel
theorem dX12_fillerOf_7 : decode cX12_fillerOf 7 = .ok (.aload_n 0, 1) := by decide +kernel
theorem dX12_fillerOf_8 : decode cX12_fillerOf 8 = .ok (.getfield 7, 3) := by decide +kernel
theorem dX12_fillerOf_11 : decode cX12_fillerOf 11 = .ok (.sipush 173, 3) := by decide +kernel
theorem dX12_fillerOf_14 : decode cX12_fillerOf 14 = .ok (.iaload, 1) := by decide +kernel
theorem dX12_fillerOf_15 : decode cX12_fillerOf 15 = .ok (.if_icmp .ge 82, 3) := by decide +kernel
theorem dX12_fillerOf_18 : decode cX12_fillerOf 18 = .ok (.aload_n 0, 1) := by decide +kernel
theorem dX12_fillerOf_19 : decode cX12_fillerOf 19 = .ok (.iload 4, 2) := by decide +kernel
theorem dX12_fillerOf_21 : decode cX12_fillerOf 21 = .ok (.invokevirtual 203, 3) := by decide +kernel
theorem dX12_fillerOf_24 : decode cX12_fillerOf 24 = .ok (.ifCond .eq 67, 3) := by decide +kernel
theorem dX12_fillerOf_27 : decode cX12_fillerOf 27 = .ok (.iload_n 2, 1) := by decide +kernel
theorem dX12_fillerOf_28 : decode cX12_fillerOf 28 = .ok (.iconst (-1), 1) := by decide +kernel
theorem dX12_fillerOf_29 : decode cX12_fillerOf 29 = .ok (.if_icmp .eq 14, 3) := by decide +kernel
theorem dX12_fillerOf_32 : decode cX12_fillerOf 32 = .ok (.aload_n 0, 1) := by decide +kernel
theorem dX12_fillerOf_33 : decode cX12_fillerOf 33 = .ok (.iload 4, 2) := by decide +kernel
theorem dX12_fillerOf_35 : decode cX12_fillerOf 35 = .ok (.iconst 0, 1) := by decide +kernel
theorem dX12_fillerOf_36 : decode cX12_fillerOf 36 = .ok (.invokevirtual 128, 3) := by decide +kernel
theorem dX12_fillerOf_39 : decode cX12_fillerOf 39 = .ok (.iload_n 2, 1) := by decide +kernel
theorem dX12_fillerOf_40 : decode cX12_fillerOf 40 = .ok (.if_icmp .ne 51, 3) := by decide +kernel
theorem dX12_fillerOf_43 : decode cX12_fillerOf 43 = .ok (.aload_n 0, 1) := by decide +kernel
theorem dX12_fillerOf_44 : decode cX12_fillerOf 44 = .ok (.iload 4, 2) := by decide +kernel
theorem dX12_fillerOf_46 : decode cX12_fillerOf 46 = .ok (.iconst 4, 1) := by decide +kernel
theorem dX12_fillerOf_47 : decode cX12_fillerOf 47 = .ok (.invokevirtual 128, 3) := by decide +kernel
theorem dX12_fillerOf_50 : decode cX12_fillerOf 50 = .ok (.iload_n 1, 1) := by decide +kernel
theorem dX12_fillerOf_51 : decode cX12_fillerOf 51 = .ok (.if_icmp .le 40, 3) := by decide +kernel
theorem dX12_fillerOf_54 : decode cX12_fillerOf 54 = .ok (.aload_n 0, 1) := by decide +kernel
theorem dX12_fillerOf_55 : decode cX12_fillerOf 55 = .ok (.iload 4, 2) := by decide +kernel
theorem dX12_fillerOf_57 : decode cX12_fillerOf 57 = .ok (.invokevirtual 156, 3) := by decide +kernel
theorem dX12_fillerOf_60 : decode cX12_fillerOf 60 = .ok (.iload_n 1, 1) := by decide +kernel
theorem dX12_fillerOf_61 : decode cX12_fillerOf 61 = .ok (.if_icmp .le 6, 3) := by decide +kernel
theorem dX12_fillerOf_64 : decode cX12_fillerOf 64 = .ok (.goto 27, 3) := by decide +kernel
theorem dX12_fillerOf_67 : decode cX12_fillerOf 67 = .ok (.iload_n 3, 1) := by decide +kernel
theorem dX12_fillerOf_68 : decode cX12_fillerOf 68 = .ok (.iconst (-1), 1) := by decide +kernel
theorem dX12_fillerOf_69 : decode cX12_fillerOf 69 = .ok (.if_icmp .eq 19, 3) := by decide +kernel
theorem dX12_fillerOf_72 : decode cX12_fillerOf 72 = .ok (.aload_n 0, 1) := by decide +kernel
theorem dX12_fillerOf_73 : decode cX12_fillerOf 73 = .ok (.iload 4, 2) := by decide +kernel
theorem dX12_fillerOf_75 : decode cX12_fillerOf 75 = .ok (.iconst 4, 1) := by decide +kernel
theorem dX12_fillerOf_76 : decode cX12_fillerOf 76 = .ok (.invokevirtual 128, 3) := by decide +kernel
theorem dX12_fillerOf_79 : decode cX12_fillerOf 79 = .ok (.aload_n 0, 1) := by decide +kernel
theorem dX12_fillerOf_80 : decode cX12_fillerOf 80 = .ok (.iload_n 3, 1) := by decide +kernel
theorem dX12_fillerOf_81 : decode cX12_fillerOf 81 = .ok (.iconst 4, 1) := by decide +kernel
theorem dX12_fillerOf_82 : decode cX12_fillerOf 82 = .ok (.invokevirtual 128, 3) := by decide +kernel
theorem dX12_fillerOf_85 : decode cX12_fillerOf 85 = .ok (.if_icmp .ge 6, 3) := by decide +kernel
theorem dX12_fillerOf_88 : decode cX12_fillerOf 88 = .ok (.iload 4, 2) := by decide +kernel
theorem dX12_fillerOf_90 : decode cX12_fillerOf 90 = .ok (.istore_n 3, 1) := by decide +kernel
theorem dX12_fillerOf_91 : decode cX12_fillerOf 91 = .ok (.iinc 4 1, 3) := by decide +kernel
theorem dX12_fillerOf_94 : decode cX12_fillerOf 94 = .ok (.goto (-89), 3) := by decide +kernel
theorem dX12_fillerOf_97 : decode cX12_fillerOf 97 = .ok (.iload_n 3, 1) := by decide +kernel
theorem dX12_fillerOf_98 : decode cX12_fillerOf 98 = .ok (.ireturn, 1) := by decide +kernel
theorem dX12_fills_0 : decode cX12_fills 0 = .ok (.iconst 0, 1) := by decide +kernel
theorem dX12_fills_1 : decode cX12_fills 1 = .ok (.istore_n 1, 1) := by decide +kernel
theorem dX12_fills_2 : decode cX12_fills 2 = .ok (.iconst 0, 1) := by decide +kernel
theorem dX12_fills_3 : decode cX12_fills 3 = .ok (.istore_n 2, 1) := by decide +kernel
theorem dX12_fills_4 : decode cX12_fills 4 = .ok (.iload_n 2, 1) := by decide +kernel
theorem dX12_fills_5 : decode cX12_fills 5 = .ok (.sipush 1200, 3) := by decide +kernel
theorem dX12_fills_8 : decode cX12_fills 8 = .ok (.if_icmp .ge 107, 3) := by decide +kernel
theorem dX12_fills_11 : decode cX12_fills 11 = .ok (.aload_n 0, 1) := by decide +kernel
theorem dX12_fills_12 : decode cX12_fills 12 = .ok (.getfield 7, 3) := by decide +kernel
theorem dX12_fills_15 : decode cX12_fills 15 = .ok (.sipush 252, 3) := by decide +kernel
theorem dX12_fills_18 : decode cX12_fills 18 = .ok (.iload_n 2, 1) := by decide +kernel
theorem dX12_fills_19 : decode cX12_fills 19 = .ok (.iadd, 1) := by decide +kernel
theorem dX12_fills_20 : decode cX12_fills 20 = .ok (.iaload, 1) := by decide +kernel
theorem dX12_fills_21 : decode cX12_fills 21 = .ok (.istore_n 3, 1) := by decide +kernel
theorem dX12_fills_22 : decode cX12_fills 22 = .ok (.iload_n 3, 1) := by decide +kernel
theorem dX12_fills_23 : decode cX12_fills 23 = .ok (.ifCond .ne 7, 3) := by decide +kernel
theorem dX12_fills_26 : decode cX12_fills 26 = .ok (.iconst (-1), 1) := by decide +kernel
theorem dX12_fills_27 : decode cX12_fills 27 = .ok (.goto 11, 3) := by decide +kernel
theorem dX12_fills_30 : decode cX12_fills 30 = .ok (.aload_n 0, 1) := by decide +kernel
theorem dX12_fills_31 : decode cX12_fills 31 = .ok (.iload_n 2, 1) := by decide +kernel
theorem dX12_fills_32 : decode cX12_fills 32 = .ok (.iload_n 3, 1) := by decide +kernel
theorem dX12_fills_33 : decode cX12_fills 33 = .ok (.iconst 1, 1) := by decide +kernel
theorem dX12_fills_34 : decode cX12_fills 34 = .ok (.isub, 1) := by decide +kernel
theorem dX12_fills_35 : decode cX12_fills 35 = .ok (.invokevirtual 216, 3) := by decide +kernel
theorem dX12_fills_38 : decode cX12_fills 38 = .ok (.istore 4, 2) := by decide +kernel
theorem dX12_fills_40 : decode cX12_fills 40 = .ok (.iload_n 3, 1) := by decide +kernel
theorem dX12_fills_41 : decode cX12_fills 41 = .ok (.ifCond .le 17, 3) := by decide +kernel
theorem dX12_fills_44 : decode cX12_fills 44 = .ok (.iload 4, 2) := by decide +kernel
theorem dX12_fills_46 : decode cX12_fills 46 = .ok (.iconst (-1), 1) := by decide +kernel
theorem dX12_fills_47 : decode cX12_fills 47 = .ok (.if_icmp .ne 11, 3) := by decide +kernel
theorem dX12_fills_50 : decode cX12_fills 50 = .ok (.aload_n 0, 1) := by decide +kernel
theorem dX12_fills_51 : decode cX12_fills 51 = .ok (.iload_n 2, 1) := by decide +kernel
theorem dX12_fills_52 : decode cX12_fills 52 = .ok (.iconst (-1), 1) := by decide +kernel
theorem dX12_fills_53 : decode cX12_fills 53 = .ok (.invokevirtual 216, 3) := by decide +kernel
theorem dX12_fills_56 : decode cX12_fills 56 = .ok (.istore 4, 2) := by decide +kernel
theorem dX12_fills_58 : decode cX12_fills 58 = .ok (.iload 4, 2) := by decide +kernel
theorem dX12_fills_60 : decode cX12_fills 60 = .ok (.iconst (-1), 1) := by decide +kernel
theorem dX12_fills_61 : decode cX12_fills 61 = .ok (.if_icmp .ne 10, 3) := by decide +kernel
theorem dX12_fills_64 : decode cX12_fills 64 = .ok (.iload_n 2, 1) := by decide +kernel
theorem dX12_fills_65 : decode cX12_fills 65 = .ok (.iconst 1, 1) := by decide +kernel
theorem dX12_fills_66 : decode cX12_fills 66 = .ok (.iadd, 1) := by decide +kernel
theorem dX12_fills_67 : decode cX12_fills 67 = .ok (.istore_n 2, 1) := by decide +kernel
theorem dX12_fills_68 : decode cX12_fills 68 = .ok (.goto (-64), 3) := by decide +kernel
theorem dX12_fills_71 : decode cX12_fills 71 = .ok (.aload_n 0, 1) := by decide +kernel
theorem dX12_fills_72 : decode cX12_fills 72 = .ok (.getfield 7, 3) := by decide +kernel
theorem dX12_fills_75 : decode cX12_fills 75 = .ok (.sipush 252, 3) := by decide +kernel
theorem dX12_fills_78 : decode cX12_fills 78 = .ok (.iload_n 2, 1) := by decide +kernel
theorem dX12_fills_79 : decode cX12_fills 79 = .ok (.iadd, 1) := by decide +kernel
theorem dX12_fills_80 : decode cX12_fills 80 = .ok (.iconst 0, 1) := by decide +kernel
theorem dX12_fills_81 : decode cX12_fills 81 = .ok (.iastore, 1) := by decide +kernel
theorem dX12_fills_82 : decode cX12_fills 82 = .ok (.aload_n 0, 1) := by decide +kernel
theorem dX12_fills_83 : decode cX12_fills 83 = .ok (.getfield 7, 3) := by decide +kernel
theorem dX12_fills_86 : decode cX12_fills 86 = .ok (.sipush 252, 3) := by decide +kernel
theorem dX12_fills_89 : decode cX12_fills 89 = .ok (.aload_n 0, 1) := by decide +kernel
theorem dX12_fills_90 : decode cX12_fills 90 = .ok (.iload 4, 2) := by decide +kernel
theorem dX12_fills_92 : decode cX12_fills 92 = .ok (.iconst 4, 1) := by decide +kernel
theorem dX12_fills_93 : decode cX12_fills 93 = .ok (.invokevirtual 128, 3) := by decide +kernel
theorem dX12_fills_96 : decode cX12_fills 96 = .ok (.iadd, 1) := by decide +kernel
theorem dX12_fills_97 : decode cX12_fills 97 = .ok (.iload_n 3, 1) := by decide +kernel
theorem dX12_fills_98 : decode cX12_fills 98 = .ok (.iastore, 1) := by decide +kernel
theorem dX12_fills_99 : decode cX12_fills 99 = .ok (.aload_n 0, 1) := by decide +kernel
theorem dX12_fills_100 : decode cX12_fills 100 = .ok (.iload 4, 2) := by decide +kernel
theorem dX12_fills_102 : decode cX12_fills 102 = .ok (.iload_n 2, 1) := by decide +kernel
theorem dX12_fills_103 : decode cX12_fills 103 = .ok (.invokevirtual 174, 3) := by decide +kernel
theorem dX12_fills_106 : decode cX12_fills 106 = .ok (.iload_n 1, 1) := by decide +kernel
theorem dX12_fills_107 : decode cX12_fills 107 = .ok (.iconst 1, 1) := by decide +kernel
theorem dX12_fills_108 : decode cX12_fills 108 = .ok (.iadd, 1) := by decide +kernel
theorem dX12_fills_109 : decode cX12_fills 109 = .ok (.istore_n 1, 1) := by decide +kernel
theorem dX12_fills_110 : decode cX12_fills 110 = .ok (.iconst 0, 1) := by decide +kernel
theorem dX12_fills_111 : decode cX12_fills 111 = .ok (.istore_n 2, 1) := by decide +kernel
theorem dX12_fills_112 : decode cX12_fills 112 = .ok (.goto (-108), 3) := by decide +kernel
theorem dX12_fills_115 : decode cX12_fills 115 = .ok (.iload_n 1, 1) := by decide +kernel
theorem dX12_fills_116 : decode cX12_fills 116 = .ok (.ireturn, 1) := by decide +kernel
theorem dX12_fill_0 : decode cX12_fill 0 = .ok (.aload_n 0, 1) := by decide +kernel
theorem dX12_fill_1 : decode cX12_fill 1 = .ok (.invokevirtual 219, 3) := by decide +kernel
theorem dX12_fill_4 : decode cX12_fill 4 = .ok (.ireturn, 1) := by decide +kernel
theorem dX12_vacant_0 : decode cX12_vacant 0 = .ok (.iload_n 1, 1) := by decide +kernel
theorem dX12_vacant_1 : decode cX12_vacant 1 = .ok (.ifCond .lt 12, 3) := by decide +kernel
theorem dX12_vacant_4 : decode cX12_vacant 4 = .ok (.iload_n 2, 1) := by decide +kernel
theorem dX12_vacant_5 : decode cX12_vacant 5 = .ok (.iconst 0, 1) := by decide +kernel
theorem dX12_vacant_6 : decode cX12_vacant 6 = .ok (.iconst 1, 1) := by decide +kernel
theorem dX12_vacant_7 : decode cX12_vacant 7 = .ok (.invokestatic 45, 3) := by decide +kernel
theorem dX12_vacant_10 : decode cX12_vacant 10 = .ok (.ifCond .ne 5, 3) := by decide +kernel
theorem dX12_vacant_13 : decode cX12_vacant 13 = .ok (.iconst (-1), 1) := by decide +kernel
theorem dX12_vacant_14 : decode cX12_vacant 14 = .ok (.ireturn, 1) := by decide +kernel
theorem dX12_vacant_15 : decode cX12_vacant 15 = .ok (.iload_n 1, 1) := by decide +kernel
theorem dX12_vacant_16 : decode cX12_vacant 16 = .ok (.istore_n 3, 1) := by decide +kernel
theorem dX12_vacant_17 : decode cX12_vacant 17 = .ok (.iconst 0, 1) := by decide +kernel
theorem dX12_vacant_18 : decode cX12_vacant 18 = .ok (.istore 4, 2) := by decide +kernel
theorem dX12_vacant_20 : decode cX12_vacant 20 = .ok (.iload 4, 2) := by decide +kernel
theorem dX12_vacant_22 : decode cX12_vacant 22 = .ok (.sipush 1200, 3) := by decide +kernel
theorem dX12_vacant_25 : decode cX12_vacant 25 = .ok (.if_icmp .ge 57, 3) := by decide +kernel
theorem dX12_vacant_28 : decode cX12_vacant 28 = .ok (.aload_n 0, 1) := by decide +kernel
theorem dX12_vacant_29 : decode cX12_vacant 29 = .ok (.getfield 7, 3) := by decide +kernel
theorem dX12_vacant_32 : decode cX12_vacant 32 = .ok (.sipush 252, 3) := by decide +kernel
theorem dX12_vacant_35 : decode cX12_vacant 35 = .ok (.iload 4, 2) := by decide +kernel
theorem dX12_vacant_37 : decode cX12_vacant 37 = .ok (.iadd, 1) := by decide +kernel
theorem dX12_vacant_38 : decode cX12_vacant 38 = .ok (.iaload, 1) := by decide +kernel
theorem dX12_vacant_39 : decode cX12_vacant 39 = .ok (.ifCond .ne 6, 3) := by decide +kernel
theorem dX12_vacant_42 : decode cX12_vacant 42 = .ok (.goto 34, 3) := by decide +kernel
theorem dX12_vacant_45 : decode cX12_vacant 45 = .ok (.iload_n 3, 1) := by decide +kernel
theorem dX12_vacant_46 : decode cX12_vacant 46 = .ok (.ifCond .ne 26, 3) := by decide +kernel
theorem dX12_vacant_49 : decode cX12_vacant 49 = .ok (.iload_n 2, 1) := by decide +kernel
theorem dX12_vacant_50 : decode cX12_vacant 50 = .ok (.ifCond .ne 8, 3) := by decide +kernel
theorem dX12_vacant_53 : decode cX12_vacant 53 = .ok (.iload 4, 2) := by decide +kernel
theorem dX12_vacant_55 : decode cX12_vacant 55 = .ok (.goto 16, 3) := by decide +kernel
theorem dX12_vacant_58 : decode cX12_vacant 58 = .ok (.aload_n 0, 1) := by decide +kernel
theorem dX12_vacant_59 : decode cX12_vacant 59 = .ok (.getfield 7, 3) := by decide +kernel
theorem dX12_vacant_62 : decode cX12_vacant 62 = .ok (.sipush 252, 3) := by decide +kernel
theorem dX12_vacant_65 : decode cX12_vacant 65 = .ok (.iload 4, 2) := by decide +kernel
theorem dX12_vacant_67 : decode cX12_vacant 67 = .ok (.iadd, 1) := by decide +kernel
theorem dX12_vacant_68 : decode cX12_vacant 68 = .ok (.iaload, 1) := by decide +kernel
theorem dX12_vacant_69 : decode cX12_vacant 69 = .ok (.iconst 1, 1) := by decide +kernel
theorem dX12_vacant_70 : decode cX12_vacant 70 = .ok (.isub, 1) := by decide +kernel
theorem dX12_vacant_71 : decode cX12_vacant 71 = .ok (.ireturn, 1) := by decide +kernel
theorem dX12_vacant_72 : decode cX12_vacant 72 = .ok (.iload_n 3, 1) := by decide +kernel
theorem dX12_vacant_73 : decode cX12_vacant 73 = .ok (.iconst 1, 1) := by decide +kernel
theorem dX12_vacant_74 : decode cX12_vacant 74 = .ok (.isub, 1) := by decide +kernel
theorem dX12_vacant_75 : decode cX12_vacant 75 = .ok (.istore_n 3, 1) := by decide +kernel
theorem dX12_vacant_76 : decode cX12_vacant 76 = .ok (.iinc 4 1, 3) := by decide +kernel
theorem dX12_vacant_79 : decode cX12_vacant 79 = .ok (.goto (-59), 3) := by decide +kernel
theorem dX12_vacant_82 : decode cX12_vacant 82 = .ok (.bipush (-2), 2) := by decide +kernel
theorem dX12_vacant_84 : decode cX12_vacant 84 = .ok (.ireturn, 1) := by decide +kernel
theorem dX12_isOffer_0 : decode cX12_isOffer 0 = .ok (.iload_n 1, 1) := by decide +kernel
theorem dX12_isOffer_1 : decode cX12_isOffer 1 = .ok (.iconst 0, 1) := by decide +kernel
theorem dX12_isOffer_2 : decode cX12_isOffer 2 = .ok (.bipush 7, 2) := by decide +kernel
theorem dX12_isOffer_4 : decode cX12_isOffer 4 = .ok (.invokestatic 45, 3) := by decide +kernel
theorem dX12_isOffer_7 : decode cX12_isOffer 7 = .ok (.ifCond .eq 25, 3) := by decide +kernel
theorem dX12_isOffer_10 : decode cX12_isOffer 10 = .ok (.aload_n 0, 1) := by decide +kernel
theorem dX12_isOffer_11 : decode cX12_isOffer 11 = .ok (.getfield 7, 3) := by decide +kernel
theorem dX12_isOffer_14 : decode cX12_isOffer 14 = .ok (.sipush 176, 3) := by decide +kernel
theorem dX12_isOffer_17 : decode cX12_isOffer 17 = .ok (.iconst 5, 1) := by decide +kernel
theorem dX12_isOffer_18 : decode cX12_isOffer 18 = .ok (.iload_n 1, 1) := by decide +kernel
theorem dX12_isOffer_19 : decode cX12_isOffer 19 = .ok (.imul, 1) := by decide +kernel
theorem dX12_isOffer_20 : decode cX12_isOffer 20 = .ok (.iadd, 1) := by decide +kernel
theorem dX12_isOffer_21 : decode cX12_isOffer 21 = .ok (.iconst 4, 1) := by decide +kernel
theorem dX12_isOffer_22 : decode cX12_isOffer 22 = .ok (.iadd, 1) := by decide +kernel
theorem dX12_isOffer_23 : decode cX12_isOffer 23 = .ok (.iaload, 1) := by decide +kernel
theorem dX12_isOffer_24 : decode cX12_isOffer 24 = .ok (.iconst 1, 1) := by decide +kernel
theorem dX12_isOffer_25 : decode cX12_isOffer 25 = .ok (.if_icmp .ne 7, 3) := by decide +kernel
theorem dX12_isOffer_28 : decode cX12_isOffer 28 = .ok (.iconst 1, 1) := by decide +kernel
theorem dX12_isOffer_29 : decode cX12_isOffer 29 = .ok (.goto 4, 3) := by decide +kernel
theorem dX12_isOffer_32 : decode cX12_isOffer 32 = .ok (.iconst 0, 1) := by decide +kernel
theorem dX12_isOffer_33 : decode cX12_isOffer 33 = .ok (.ireturn, 1) := by decide +kernel
theorem dX12_offer_0 : decode cX12_offer 0 = .ok (.aload_n 0, 1) := by decide +kernel
theorem dX12_offer_1 : decode cX12_offer 1 = .ok (.iload_n 1, 1) := by decide +kernel
theorem dX12_offer_2 : decode cX12_offer 2 = .ok (.invokevirtual 153, 3) := by decide +kernel
theorem dX12_offer_5 : decode cX12_offer 5 = .ok (.ifCond .eq 31, 3) := by decide +kernel
theorem dX12_offer_8 : decode cX12_offer 8 = .ok (.aload_n 0, 1) := by decide +kernel
theorem dX12_offer_9 : decode cX12_offer 9 = .ok (.iload_n 3, 1) := by decide +kernel
theorem dX12_offer_10 : decode cX12_offer 10 = .ok (.invokevirtual 153, 3) := by decide +kernel
theorem dX12_offer_13 : decode cX12_offer 13 = .ok (.ifCond .eq 23, 3) := by decide +kernel
theorem dX12_offer_16 : decode cX12_offer 16 = .ok (.iload_n 1, 1) := by decide +kernel
theorem dX12_offer_17 : decode cX12_offer 17 = .ok (.iload_n 3, 1) := by decide +kernel
theorem dX12_offer_18 : decode cX12_offer 18 = .ok (.if_icmp .eq 18, 3) := by decide +kernel
theorem dX12_offer_21 : decode cX12_offer 21 = .ok (.iload_n 2, 1) := by decide +kernel
theorem dX12_offer_22 : decode cX12_offer 22 = .ok (.invokestatic 162, 3) := by decide +kernel
theorem dX12_offer_25 : decode cX12_offer 25 = .ok (.ifCond .eq 11, 3) := by decide +kernel
theorem dX12_offer_28 : decode cX12_offer 28 = .ok (.iload 4, 2) := by decide +kernel
theorem dX12_offer_30 : decode cX12_offer 30 = .ok (.invokestatic 162, 3) := by decide +kernel
theorem dX12_offer_33 : decode cX12_offer 33 = .ok (.ifCond .ne 5, 3) := by decide +kernel
theorem dX12_offer_36 : decode cX12_offer 36 = .ok (.iconst (-1), 1) := by decide +kernel
theorem dX12_offer_37 : decode cX12_offer 37 = .ok (.ireturn, 1) := by decide +kernel
theorem dX12_offer_38 : decode cX12_offer 38 = .ok (.aload_n 0, 1) := by decide +kernel
theorem dX12_offer_39 : decode cX12_offer 39 = .ok (.iload_n 1, 1) := by decide +kernel
theorem dX12_offer_40 : decode cX12_offer 40 = .ok (.invokevirtual 203, 3) := by decide +kernel
theorem dX12_offer_43 : decode cX12_offer 43 = .ok (.ifCond .eq 26, 3) := by decide +kernel
theorem dX12_offer_46 : decode cX12_offer 46 = .ok (.aload_n 0, 1) := by decide +kernel
theorem dX12_offer_47 : decode cX12_offer 47 = .ok (.iload_n 3, 1) := by decide +kernel
theorem dX12_offer_48 : decode cX12_offer 48 = .ok (.invokevirtual 203, 3) := by decide +kernel
theorem dX12_offer_51 : decode cX12_offer 51 = .ok (.ifCond .eq 18, 3) := by decide +kernel
theorem dX12_offer_54 : decode cX12_offer 54 = .ok (.aload_n 0, 1) := by decide +kernel
theorem dX12_offer_55 : decode cX12_offer 55 = .ok (.iload_n 1, 1) := by decide +kernel
theorem dX12_offer_56 : decode cX12_offer 56 = .ok (.iconst 0, 1) := by decide +kernel
theorem dX12_offer_57 : decode cX12_offer 57 = .ok (.invokevirtual 128, 3) := by decide +kernel
theorem dX12_offer_60 : decode cX12_offer 60 = .ok (.aload_n 0, 1) := by decide +kernel
theorem dX12_offer_61 : decode cX12_offer 61 = .ok (.iload_n 3, 1) := by decide +kernel
theorem dX12_offer_62 : decode cX12_offer 62 = .ok (.iconst 0, 1) := by decide +kernel
theorem dX12_offer_63 : decode cX12_offer 63 = .ok (.invokevirtual 128, 3) := by decide +kernel
theorem dX12_offer_66 : decode cX12_offer 66 = .ok (.if_icmp .eq 6, 3) := by decide +kernel
theorem dX12_offer_69 : decode cX12_offer 69 = .ok (.bipush (-2), 2) := by decide +kernel
theorem dX12_offer_71 : decode cX12_offer 71 = .ok (.ireturn, 1) := by decide +kernel
theorem dX12_offer_72 : decode cX12_offer 72 = .ok (.iconst 0, 1) := by decide +kernel
theorem dX12_offer_73 : decode cX12_offer 73 = .ok (.istore 5, 2) := by decide +kernel
theorem dX12_offer_75 : decode cX12_offer 75 = .ok (.iload 5, 2) := by decide +kernel
theorem dX12_offer_77 : decode cX12_offer 77 = .ok (.bipush 8, 2) := by decide +kernel
theorem dX12_offer_79 : decode cX12_offer 79 = .ok (.if_icmp .ge 21, 3) := by decide +kernel
theorem dX12_offer_82 : decode cX12_offer 82 = .ok (.aload_n 0, 1) := by decide +kernel
theorem dX12_offer_83 : decode cX12_offer 83 = .ok (.iload 5, 2) := by decide +kernel
theorem dX12_offer_85 : decode cX12_offer 85 = .ok (.invokevirtual 222, 3) := by decide +kernel
theorem dX12_offer_88 : decode cX12_offer 88 = .ok (.ifCond .eq 12, 3) := by decide +kernel
theorem dX12_offer_91 : decode cX12_offer 91 = .ok (.iload 5, 2) := by decide +kernel
theorem dX12_offer_93 : decode cX12_offer 93 = .ok (.iconst 1, 1) := by decide +kernel
theorem dX12_offer_94 : decode cX12_offer 94 = .ok (.iadd, 1) := by decide +kernel
theorem dX12_offer_95 : decode cX12_offer 95 = .ok (.istore 5, 2) := by decide +kernel
theorem dX12_offer_97 : decode cX12_offer 97 = .ok (.goto (-22), 3) := by decide +kernel
theorem dX12_offer_100 : decode cX12_offer 100 = .ok (.iload 5, 2) := by decide +kernel
theorem dX12_offer_102 : decode cX12_offer 102 = .ok (.bipush 8, 2) := by decide +kernel
theorem dX12_offer_104 : decode cX12_offer 104 = .ok (.if_icmp .ne 6, 3) := by decide +kernel
theorem dX12_offer_107 : decode cX12_offer 107 = .ok (.bipush (-3), 2) := by decide +kernel
theorem dX12_offer_109 : decode cX12_offer 109 = .ok (.ireturn, 1) := by decide +kernel
theorem dX12_offer_110 : decode cX12_offer 110 = .ok (.aload_n 0, 1) := by decide +kernel
theorem dX12_offer_111 : decode cX12_offer 111 = .ok (.getfield 7, 3) := by decide +kernel
theorem dX12_offer_114 : decode cX12_offer 114 = .ok (.sipush 176, 3) := by decide +kernel
theorem dX12_offer_117 : decode cX12_offer 117 = .ok (.iconst 5, 1) := by decide +kernel
theorem dX12_offer_118 : decode cX12_offer 118 = .ok (.iload 5, 2) := by decide +kernel
theorem dX12_offer_120 : decode cX12_offer 120 = .ok (.imul, 1) := by decide +kernel
theorem dX12_offer_121 : decode cX12_offer 121 = .ok (.iadd, 1) := by decide +kernel
theorem dX12_offer_122 : decode cX12_offer 122 = .ok (.iload_n 1, 1) := by decide +kernel
theorem dX12_offer_123 : decode cX12_offer 123 = .ok (.iastore, 1) := by decide +kernel
theorem dX12_offer_124 : decode cX12_offer 124 = .ok (.aload_n 0, 1) := by decide +kernel
theorem dX12_offer_125 : decode cX12_offer 125 = .ok (.getfield 7, 3) := by decide +kernel
theorem dX12_offer_128 : decode cX12_offer 128 = .ok (.sipush 176, 3) := by decide +kernel
theorem dX12_offer_131 : decode cX12_offer 131 = .ok (.iconst 5, 1) := by decide +kernel
theorem dX12_offer_132 : decode cX12_offer 132 = .ok (.iload 5, 2) := by decide +kernel
theorem dX12_offer_134 : decode cX12_offer 134 = .ok (.imul, 1) := by decide +kernel
theorem dX12_offer_135 : decode cX12_offer 135 = .ok (.iadd, 1) := by decide +kernel
theorem dX12_offer_136 : decode cX12_offer 136 = .ok (.iconst 1, 1) := by decide +kernel
theorem dX12_offer_137 : decode cX12_offer 137 = .ok (.iadd, 1) := by decide +kernel
theorem dX12_offer_138 : decode cX12_offer 138 = .ok (.iload_n 2, 1) := by decide +kernel
theorem dX12_offer_139 : decode cX12_offer 139 = .ok (.iastore, 1) := by decide +kernel
theorem dX12_offer_140 : decode cX12_offer 140 = .ok (.aload_n 0, 1) := by decide +kernel
theorem dX12_offer_141 : decode cX12_offer 141 = .ok (.getfield 7, 3) := by decide +kernel
theorem dX12_offer_144 : decode cX12_offer 144 = .ok (.sipush 176, 3) := by decide +kernel
theorem dX12_offer_147 : decode cX12_offer 147 = .ok (.iconst 5, 1) := by decide +kernel
theorem dX12_offer_148 : decode cX12_offer 148 = .ok (.iload 5, 2) := by decide +kernel
theorem dX12_offer_150 : decode cX12_offer 150 = .ok (.imul, 1) := by decide +kernel
theorem dX12_offer_151 : decode cX12_offer 151 = .ok (.iadd, 1) := by decide +kernel
theorem dX12_offer_152 : decode cX12_offer 152 = .ok (.iconst 2, 1) := by decide +kernel
theorem dX12_offer_153 : decode cX12_offer 153 = .ok (.iadd, 1) := by decide +kernel
theorem dX12_offer_154 : decode cX12_offer 154 = .ok (.iload_n 3, 1) := by decide +kernel
theorem dX12_offer_155 : decode cX12_offer 155 = .ok (.iastore, 1) := by decide +kernel
theorem dX12_offer_156 : decode cX12_offer 156 = .ok (.aload_n 0, 1) := by decide +kernel
theorem dX12_offer_157 : decode cX12_offer 157 = .ok (.getfield 7, 3) := by decide +kernel
theorem dX12_offer_160 : decode cX12_offer 160 = .ok (.sipush 176, 3) := by decide +kernel
theorem dX12_offer_163 : decode cX12_offer 163 = .ok (.iconst 5, 1) := by decide +kernel
theorem dX12_offer_164 : decode cX12_offer 164 = .ok (.iload 5, 2) := by decide +kernel
theorem dX12_offer_166 : decode cX12_offer 166 = .ok (.imul, 1) := by decide +kernel
theorem dX12_offer_167 : decode cX12_offer 167 = .ok (.iadd, 1) := by decide +kernel
theorem dX12_offer_168 : decode cX12_offer 168 = .ok (.iconst 3, 1) := by decide +kernel
theorem dX12_offer_169 : decode cX12_offer 169 = .ok (.iadd, 1) := by decide +kernel
theorem dX12_offer_170 : decode cX12_offer 170 = .ok (.iload 4, 2) := by decide +kernel
theorem dX12_offer_172 : decode cX12_offer 172 = .ok (.iastore, 1) := by decide +kernel
theorem dX12_offer_173 : decode cX12_offer 173 = .ok (.aload_n 0, 1) := by decide +kernel
theorem dX12_offer_174 : decode cX12_offer 174 = .ok (.getfield 7, 3) := by decide +kernel
theorem dX12_offer_177 : decode cX12_offer 177 = .ok (.sipush 176, 3) := by decide +kernel
theorem dX12_offer_180 : decode cX12_offer 180 = .ok (.iconst 5, 1) := by decide +kernel
theorem dX12_offer_181 : decode cX12_offer 181 = .ok (.iload 5, 2) := by decide +kernel
theorem dX12_offer_183 : decode cX12_offer 183 = .ok (.imul, 1) := by decide +kernel
theorem dX12_offer_184 : decode cX12_offer 184 = .ok (.iadd, 1) := by decide +kernel
theorem dX12_offer_185 : decode cX12_offer 185 = .ok (.iconst 4, 1) := by decide +kernel
theorem dX12_offer_186 : decode cX12_offer 186 = .ok (.iadd, 1) := by decide +kernel
theorem dX12_offer_187 : decode cX12_offer 187 = .ok (.iconst 1, 1) := by decide +kernel
theorem dX12_offer_188 : decode cX12_offer 188 = .ok (.iastore, 1) := by decide +kernel
theorem dX12_offer_189 : decode cX12_offer 189 = .ok (.iload 5, 2) := by decide +kernel
theorem dX12_offer_191 : decode cX12_offer 191 = .ok (.ireturn, 1) := by decide +kernel
theorem dX12_withdraw_0 : decode cX12_withdraw 0 = .ok (.aload_n 0, 1) := by decide +kernel
theorem dX12_withdraw_1 : decode cX12_withdraw 1 = .ok (.iload_n 1, 1) := by decide +kernel
theorem dX12_withdraw_2 : decode cX12_withdraw 2 = .ok (.invokevirtual 222, 3) := by decide +kernel
theorem dX12_withdraw_5 : decode cX12_withdraw 5 = .ok (.ifCond .ne 5, 3) := by decide +kernel
theorem dX12_withdraw_8 : decode cX12_withdraw 8 = .ok (.iconst 0, 1) := by decide +kernel
theorem dX12_withdraw_9 : decode cX12_withdraw 9 = .ok (.ireturn, 1) := by decide +kernel
theorem dX12_withdraw_10 : decode cX12_withdraw 10 = .ok (.aload_n 0, 1) := by decide +kernel
theorem dX12_withdraw_11 : decode cX12_withdraw 11 = .ok (.getfield 7, 3) := by decide +kernel
theorem dX12_withdraw_14 : decode cX12_withdraw 14 = .ok (.sipush 176, 3) := by decide +kernel
theorem dX12_withdraw_17 : decode cX12_withdraw 17 = .ok (.iconst 5, 1) := by decide +kernel
theorem dX12_withdraw_18 : decode cX12_withdraw 18 = .ok (.iload_n 1, 1) := by decide +kernel
theorem dX12_withdraw_19 : decode cX12_withdraw 19 = .ok (.imul, 1) := by decide +kernel
theorem dX12_withdraw_20 : decode cX12_withdraw 20 = .ok (.iadd, 1) := by decide +kernel
theorem dX12_withdraw_21 : decode cX12_withdraw 21 = .ok (.iconst 4, 1) := by decide +kernel
theorem dX12_withdraw_22 : decode cX12_withdraw 22 = .ok (.iadd, 1) := by decide +kernel
theorem dX12_withdraw_23 : decode cX12_withdraw 23 = .ok (.iconst 0, 1) := by decide +kernel
theorem dX12_withdraw_24 : decode cX12_withdraw 24 = .ok (.iastore, 1) := by decide +kernel
theorem dX12_withdraw_25 : decode cX12_withdraw 25 = .ok (.iconst 1, 1) := by decide +kernel
theorem dX12_withdraw_26 : decode cX12_withdraw 26 = .ok (.ireturn, 1) := by decide +kernel
theorem dX12_offered_0 : decode cX12_offered 0 = .ok (.aload_n 0, 1) := by decide +kernel
theorem dX12_offered_1 : decode cX12_offered 1 = .ok (.iload_n 1, 1) := by decide +kernel
theorem dX12_offered_2 : decode cX12_offered 2 = .ok (.invokevirtual 222, 3) := by decide +kernel
theorem dX12_offered_5 : decode cX12_offered 5 = .ok (.ifCond .eq 21, 3) := by decide +kernel
theorem dX12_offered_8 : decode cX12_offered 8 = .ok (.iload_n 2, 1) := by decide +kernel
theorem dX12_offered_9 : decode cX12_offered 9 = .ok (.iconst 0, 1) := by decide +kernel
theorem dX12_offered_10 : decode cX12_offered 10 = .ok (.iconst 3, 1) := by decide +kernel
theorem dX12_offered_11 : decode cX12_offered 11 = .ok (.invokestatic 45, 3) := by decide +kernel
theorem dX12_offered_14 : decode cX12_offered 14 = .ok (.ifCond .eq 12, 3) := by decide +kernel
theorem dX12_offered_17 : decode cX12_offered 17 = .ok (.aload_n 0, 1) := by decide +kernel
theorem dX12_offered_18 : decode cX12_offered 18 = .ok (.iload_n 1, 1) := by decide +kernel
theorem dX12_offered_19 : decode cX12_offered 19 = .ok (.iload_n 2, 1) := by decide +kernel
theorem dX12_offered_20 : decode cX12_offered 20 = .ok (.invokevirtual 225, 3) := by decide +kernel
theorem dX12_offered_23 : decode cX12_offered 23 = .ok (.goto 4, 3) := by decide +kernel
theorem dX12_offered_26 : decode cX12_offered 26 = .ok (.iconst (-1), 1) := by decide +kernel
theorem dX12_offered_27 : decode cX12_offered 27 = .ok (.ireturn, 1) := by decide +kernel
theorem dX12_asked_0 : decode cX12_asked 0 = .ok (.aload_n 0, 1) := by decide +kernel
theorem dX12_asked_1 : decode cX12_asked 1 = .ok (.getfield 7, 3) := by decide +kernel
theorem dX12_asked_4 : decode cX12_asked 4 = .ok (.sipush 176, 3) := by decide +kernel
theorem dX12_asked_7 : decode cX12_asked 7 = .ok (.iconst 5, 1) := by decide +kernel
theorem dX12_asked_8 : decode cX12_asked 8 = .ok (.iload_n 1, 1) := by decide +kernel
theorem dX12_asked_9 : decode cX12_asked 9 = .ok (.imul, 1) := by decide +kernel
theorem dX12_asked_10 : decode cX12_asked 10 = .ok (.iadd, 1) := by decide +kernel
theorem dX12_asked_11 : decode cX12_asked 11 = .ok (.iload_n 2, 1) := by decide +kernel
theorem dX12_asked_12 : decode cX12_asked 12 = .ok (.iadd, 1) := by decide +kernel
theorem dX12_asked_13 : decode cX12_asked 13 = .ok (.iaload, 1) := by decide +kernel
theorem dX12_asked_14 : decode cX12_asked 14 = .ok (.ireturn, 1) := by decide +kernel
theorem dX12_stillSo_0 : decode cX12_stillSo 0 = .ok (.aload_n 0, 1) := by decide +kernel
theorem dX12_stillSo_1 : decode cX12_stillSo 1 = .ok (.aload_n 0, 1) := by decide +kernel
theorem dX12_stillSo_2 : decode cX12_stillSo 2 = .ok (.iload_n 1, 1) := by decide +kernel
theorem dX12_stillSo_3 : decode cX12_stillSo 3 = .ok (.iconst 0, 1) := by decide +kernel
theorem dX12_stillSo_4 : decode cX12_stillSo 4 = .ok (.invokevirtual 225, 3) := by decide +kernel
theorem dX12_stillSo_7 : decode cX12_stillSo 7 = .ok (.invokevirtual 203, 3) := by decide +kernel
theorem dX12_stillSo_10 : decode cX12_stillSo 10 = .ok (.ifCond .eq 20, 3) := by decide +kernel
theorem dX12_stillSo_13 : decode cX12_stillSo 13 = .ok (.aload_n 0, 1) := by decide +kernel
theorem dX12_stillSo_14 : decode cX12_stillSo 14 = .ok (.aload_n 0, 1) := by decide +kernel
theorem dX12_stillSo_15 : decode cX12_stillSo 15 = .ok (.iload_n 1, 1) := by decide +kernel
theorem dX12_stillSo_16 : decode cX12_stillSo 16 = .ok (.iconst 2, 1) := by decide +kernel
theorem dX12_stillSo_17 : decode cX12_stillSo 17 = .ok (.invokevirtual 225, 3) := by decide +kernel
theorem dX12_stillSo_20 : decode cX12_stillSo 20 = .ok (.invokevirtual 203, 3) := by decide +kernel
theorem dX12_stillSo_23 : decode cX12_stillSo 23 = .ok (.ifCond .eq 7, 3) := by decide +kernel
theorem dX12_stillSo_26 : decode cX12_stillSo 26 = .ok (.iconst 1, 1) := by decide +kernel
theorem dX12_stillSo_27 : decode cX12_stillSo 27 = .ok (.goto 4, 3) := by decide +kernel
theorem dX12_stillSo_30 : decode cX12_stillSo 30 = .ok (.iconst 0, 1) := by decide +kernel
theorem dX12_stillSo_31 : decode cX12_stillSo 31 = .ok (.ireturn, 1) := by decide +kernel
theorem dX12_canSwap_0 : decode cX12_canSwap 0 = .ok (.aload_n 0, 1) := by decide +kernel
theorem dX12_canSwap_1 : decode cX12_canSwap 1 = .ok (.iload_n 1, 1) := by decide +kernel
theorem dX12_canSwap_2 : decode cX12_canSwap 2 = .ok (.iconst 2, 1) := by decide +kernel
theorem dX12_canSwap_3 : decode cX12_canSwap 3 = .ok (.invokevirtual 225, 3) := by decide +kernel
theorem dX12_canSwap_6 : decode cX12_canSwap 6 = .ok (.istore_n 3, 1) := by decide +kernel
theorem dX12_canSwap_7 : decode cX12_canSwap 7 = .ok (.aload_n 0, 1) := by decide +kernel
theorem dX12_canSwap_8 : decode cX12_canSwap 8 = .ok (.iload_n 2, 1) := by decide +kernel
theorem dX12_canSwap_9 : decode cX12_canSwap 9 = .ok (.iconst 0, 1) := by decide +kernel
theorem dX12_canSwap_10 : decode cX12_canSwap 10 = .ok (.invokevirtual 225, 3) := by decide +kernel
theorem dX12_canSwap_13 : decode cX12_canSwap 13 = .ok (.istore 4, 2) := by decide +kernel
theorem dX12_canSwap_15 : decode cX12_canSwap 15 = .ok (.aload_n 0, 1) := by decide +kernel
theorem dX12_canSwap_16 : decode cX12_canSwap 16 = .ok (.iload_n 3, 1) := by decide +kernel
theorem dX12_canSwap_17 : decode cX12_canSwap 17 = .ok (.iconst 4, 1) := by decide +kernel
theorem dX12_canSwap_18 : decode cX12_canSwap 18 = .ok (.invokevirtual 128, 3) := by decide +kernel
theorem dX12_canSwap_21 : decode cX12_canSwap 21 = .ok (.istore 5, 2) := by decide +kernel
theorem dX12_canSwap_23 : decode cX12_canSwap 23 = .ok (.aload_n 0, 1) := by decide +kernel
theorem dX12_canSwap_24 : decode cX12_canSwap 24 = .ok (.iload 4, 2) := by decide +kernel
theorem dX12_canSwap_26 : decode cX12_canSwap 26 = .ok (.iconst 4, 1) := by decide +kernel
theorem dX12_canSwap_27 : decode cX12_canSwap 27 = .ok (.invokevirtual 128, 3) := by decide +kernel
theorem dX12_canSwap_30 : decode cX12_canSwap 30 = .ok (.istore 6, 2) := by decide +kernel
theorem dX12_canSwap_32 : decode cX12_canSwap 32 = .ok (.iload 6, 2) := by decide +kernel
theorem dX12_canSwap_34 : decode cX12_canSwap 34 = .ok (.iload 5, 2) := by decide +kernel
theorem dX12_canSwap_36 : decode cX12_canSwap 36 = .ok (.if_icmp .ge 50, 3) := by decide +kernel
theorem dX12_canSwap_39 : decode cX12_canSwap 39 = .ok (.iload 6, 2) := by decide +kernel
theorem dX12_canSwap_41 : decode cX12_canSwap 41 = .ok (.aload_n 0, 1) := by decide +kernel
theorem dX12_canSwap_42 : decode cX12_canSwap 42 = .ok (.iload_n 1, 1) := by decide +kernel
theorem dX12_canSwap_43 : decode cX12_canSwap 43 = .ok (.iconst 3, 1) := by decide +kernel
theorem dX12_canSwap_44 : decode cX12_canSwap 44 = .ok (.invokevirtual 225, 3) := by decide +kernel
theorem dX12_canSwap_47 : decode cX12_canSwap 47 = .ok (.if_icmp .gt 39, 3) := by decide +kernel
theorem dX12_canSwap_50 : decode cX12_canSwap 50 = .ok (.iload 6, 2) := by decide +kernel
theorem dX12_canSwap_52 : decode cX12_canSwap 52 = .ok (.aload_n 0, 1) := by decide +kernel
theorem dX12_canSwap_53 : decode cX12_canSwap 53 = .ok (.iload_n 3, 1) := by decide +kernel
theorem dX12_canSwap_54 : decode cX12_canSwap 54 = .ok (.invokevirtual 156, 3) := by decide +kernel
theorem dX12_canSwap_57 : decode cX12_canSwap 57 = .ok (.if_icmp .lt 29, 3) := by decide +kernel
theorem dX12_canSwap_60 : decode cX12_canSwap 60 = .ok (.iload 5, 2) := by decide +kernel
theorem dX12_canSwap_62 : decode cX12_canSwap 62 = .ok (.aload_n 0, 1) := by decide +kernel
theorem dX12_canSwap_63 : decode cX12_canSwap 63 = .ok (.iload_n 2, 1) := by decide +kernel
theorem dX12_canSwap_64 : decode cX12_canSwap 64 = .ok (.iconst 1, 1) := by decide +kernel
theorem dX12_canSwap_65 : decode cX12_canSwap 65 = .ok (.invokevirtual 225, 3) := by decide +kernel
theorem dX12_canSwap_68 : decode cX12_canSwap 68 = .ok (.if_icmp .gt 18, 3) := by decide +kernel
theorem dX12_canSwap_71 : decode cX12_canSwap 71 = .ok (.iload 5, 2) := by decide +kernel
theorem dX12_canSwap_73 : decode cX12_canSwap 73 = .ok (.aload_n 0, 1) := by decide +kernel
theorem dX12_canSwap_74 : decode cX12_canSwap 74 = .ok (.iload 4, 2) := by decide +kernel
theorem dX12_canSwap_76 : decode cX12_canSwap 76 = .ok (.invokevirtual 156, 3) := by decide +kernel
theorem dX12_canSwap_79 : decode cX12_canSwap 79 = .ok (.if_icmp .lt 7, 3) := by decide +kernel
theorem dX12_canSwap_82 : decode cX12_canSwap 82 = .ok (.iconst 1, 1) := by decide +kernel
theorem dX12_canSwap_83 : decode cX12_canSwap 83 = .ok (.goto 4, 3) := by decide +kernel
theorem dX12_canSwap_86 : decode cX12_canSwap 86 = .ok (.iconst 0, 1) := by decide +kernel
theorem dX12_canSwap_87 : decode cX12_canSwap 87 = .ok (.ireturn, 1) := by decide +kernel
theorem dX12_lineOf_0 : decode cX12_lineOf 0 = .ok (.aload_n 0, 1) := by decide +kernel
theorem dX12_lineOf_1 : decode cX12_lineOf 1 = .ok (.aload_n 0, 1) := by decide +kernel
theorem dX12_lineOf_2 : decode cX12_lineOf 2 = .ok (.iload_n 1, 1) := by decide +kernel
theorem dX12_lineOf_3 : decode cX12_lineOf 3 = .ok (.iconst 0, 1) := by decide +kernel
theorem dX12_lineOf_4 : decode cX12_lineOf 4 = .ok (.invokevirtual 225, 3) := by decide +kernel
theorem dX12_lineOf_7 : decode cX12_lineOf 7 = .ok (.iconst 0, 1) := by decide +kernel
theorem dX12_lineOf_8 : decode cX12_lineOf 8 = .ok (.invokevirtual 128, 3) := by decide +kernel
theorem dX12_lineOf_11 : decode cX12_lineOf 11 = .ok (.ireturn, 1) := by decide +kernel
theorem dX12_canDeal_0 : decode cX12_canDeal 0 = .ok (.aload_n 0, 1) := by decide +kernel
theorem dX12_canDeal_1 : decode cX12_canDeal 1 = .ok (.iload_n 1, 1) := by decide +kernel
theorem dX12_canDeal_2 : decode cX12_canDeal 2 = .ok (.invokevirtual 222, 3) := by decide +kernel
theorem dX12_canDeal_5 : decode cX12_canDeal 5 = .ok (.ifCond .eq 62, 3) := by decide +kernel
theorem dX12_canDeal_8 : decode cX12_canDeal 8 = .ok (.aload_n 0, 1) := by decide +kernel
theorem dX12_canDeal_9 : decode cX12_canDeal 9 = .ok (.iload_n 2, 1) := by decide +kernel
theorem dX12_canDeal_10 : decode cX12_canDeal 10 = .ok (.invokevirtual 222, 3) := by decide +kernel
theorem dX12_canDeal_13 : decode cX12_canDeal 13 = .ok (.ifCond .eq 54, 3) := by decide +kernel
theorem dX12_canDeal_16 : decode cX12_canDeal 16 = .ok (.aload_n 0, 1) := by decide +kernel
theorem dX12_canDeal_17 : decode cX12_canDeal 17 = .ok (.iload_n 1, 1) := by decide +kernel
theorem dX12_canDeal_18 : decode cX12_canDeal 18 = .ok (.invokevirtual 228, 3) := by decide +kernel
theorem dX12_canDeal_21 : decode cX12_canDeal 21 = .ok (.aload_n 0, 1) := by decide +kernel
theorem dX12_canDeal_22 : decode cX12_canDeal 22 = .ok (.iload_n 2, 1) := by decide +kernel
theorem dX12_canDeal_23 : decode cX12_canDeal 23 = .ok (.invokevirtual 228, 3) := by decide +kernel
theorem dX12_canDeal_26 : decode cX12_canDeal 26 = .ok (.if_icmp .eq 41, 3) := by decide +kernel
theorem dX12_canDeal_29 : decode cX12_canDeal 29 = .ok (.aload_n 0, 1) := by decide +kernel
theorem dX12_canDeal_30 : decode cX12_canDeal 30 = .ok (.iload_n 1, 1) := by decide +kernel
theorem dX12_canDeal_31 : decode cX12_canDeal 31 = .ok (.invokevirtual 231, 3) := by decide +kernel
theorem dX12_canDeal_34 : decode cX12_canDeal 34 = .ok (.ifCond .eq 33, 3) := by decide +kernel
theorem dX12_canDeal_37 : decode cX12_canDeal 37 = .ok (.aload_n 0, 1) := by decide +kernel
theorem dX12_canDeal_38 : decode cX12_canDeal 38 = .ok (.iload_n 2, 1) := by decide +kernel
theorem dX12_canDeal_39 : decode cX12_canDeal 39 = .ok (.invokevirtual 231, 3) := by decide +kernel
theorem dX12_canDeal_42 : decode cX12_canDeal 42 = .ok (.ifCond .eq 25, 3) := by decide +kernel
theorem dX12_canDeal_45 : decode cX12_canDeal 45 = .ok (.aload_n 0, 1) := by decide +kernel
theorem dX12_canDeal_46 : decode cX12_canDeal 46 = .ok (.iload_n 1, 1) := by decide +kernel
theorem dX12_canDeal_47 : decode cX12_canDeal 47 = .ok (.iload_n 2, 1) := by decide +kernel
theorem dX12_canDeal_48 : decode cX12_canDeal 48 = .ok (.invokevirtual 234, 3) := by decide +kernel
theorem dX12_canDeal_51 : decode cX12_canDeal 51 = .ok (.ifCond .eq 16, 3) := by decide +kernel
theorem dX12_canDeal_54 : decode cX12_canDeal 54 = .ok (.aload_n 0, 1) := by decide +kernel
theorem dX12_canDeal_55 : decode cX12_canDeal 55 = .ok (.iload_n 2, 1) := by decide +kernel
theorem dX12_canDeal_56 : decode cX12_canDeal 56 = .ok (.iload_n 1, 1) := by decide +kernel
theorem dX12_canDeal_57 : decode cX12_canDeal 57 = .ok (.invokevirtual 234, 3) := by decide +kernel
theorem dX12_canDeal_60 : decode cX12_canDeal 60 = .ok (.ifCond .eq 7, 3) := by decide +kernel
theorem dX12_canDeal_63 : decode cX12_canDeal 63 = .ok (.iconst 1, 1) := by decide +kernel
theorem dX12_canDeal_64 : decode cX12_canDeal 64 = .ok (.goto 4, 3) := by decide +kernel
theorem dX12_canDeal_67 : decode cX12_canDeal 67 = .ok (.iconst 0, 1) := by decide +kernel
theorem dX12_canDeal_68 : decode cX12_canDeal 68 = .ok (.ireturn, 1) := by decide +kernel
theorem dX12_deals_0 : decode cX12_deals 0 = .ok (.aload_n 0, 1) := by decide +kernel
theorem dX12_deals_1 : decode cX12_deals 1 = .ok (.invokevirtual 210, 3) := by decide +kernel
theorem dX12_deals_4 : decode cX12_deals 4 = .ok (.istore_n 3, 1) := by decide +kernel
theorem dX12_deals_5 : decode cX12_deals 5 = .ok (.aload_n 0, 1) := by decide +kernel
theorem dX12_deals_6 : decode cX12_deals 6 = .ok (.aload_n 0, 1) := by decide +kernel
theorem dX12_deals_7 : decode cX12_deals 7 = .ok (.iload_n 1, 1) := by decide +kernel
theorem dX12_deals_8 : decode cX12_deals 8 = .ok (.iconst 2, 1) := by decide +kernel
theorem dX12_deals_9 : decode cX12_deals 9 = .ok (.invokevirtual 225, 3) := by decide +kernel
theorem dX12_deals_12 : decode cX12_deals 12 = .ok (.aload_n 0, 1) := by decide +kernel
theorem dX12_deals_13 : decode cX12_deals 13 = .ok (.iload_n 2, 1) := by decide +kernel
theorem dX12_deals_14 : decode cX12_deals 14 = .ok (.iconst 0, 1) := by decide +kernel
theorem dX12_deals_15 : decode cX12_deals 15 = .ok (.invokevirtual 225, 3) := by decide +kernel
theorem dX12_deals_18 : decode cX12_deals 18 = .ok (.invokevirtual 213, 3) := by decide +kernel
theorem dX12_deals_21 : decode cX12_deals 21 = .ok (.aload_n 0, 1) := by decide +kernel
theorem dX12_deals_22 : decode cX12_deals 22 = .ok (.aload_n 0, 1) := by decide +kernel
theorem dX12_deals_23 : decode cX12_deals 23 = .ok (.iload_n 2, 1) := by decide +kernel
theorem dX12_deals_24 : decode cX12_deals 24 = .ok (.iconst 2, 1) := by decide +kernel
theorem dX12_deals_25 : decode cX12_deals 25 = .ok (.invokevirtual 225, 3) := by decide +kernel
theorem dX12_deals_28 : decode cX12_deals 28 = .ok (.aload_n 0, 1) := by decide +kernel
theorem dX12_deals_29 : decode cX12_deals 29 = .ok (.iload_n 1, 1) := by decide +kernel
theorem dX12_deals_30 : decode cX12_deals 30 = .ok (.iconst 0, 1) := by decide +kernel
theorem dX12_deals_31 : decode cX12_deals 31 = .ok (.invokevirtual 225, 3) := by decide +kernel
theorem dX12_deals_34 : decode cX12_deals 34 = .ok (.invokevirtual 213, 3) := by decide +kernel
theorem dX12_deals_37 : decode cX12_deals 37 = .ok (.iload_n 3, 1) := by decide +kernel
theorem dX12_deals_38 : decode cX12_deals 38 = .ok (.aload_n 0, 1) := by decide +kernel
theorem dX12_deals_39 : decode cX12_deals 39 = .ok (.invokevirtual 210, 3) := by decide +kernel
theorem dX12_deals_42 : decode cX12_deals 42 = .ok (.isub, 1) := by decide +kernel
theorem dX12_deals_43 : decode cX12_deals 43 = .ok (.ireturn, 1) := by decide +kernel
theorem dX12_deal_0 : decode cX12_deal 0 = .ok (.aload_n 0, 1) := by decide +kernel
theorem dX12_deal_1 : decode cX12_deal 1 = .ok (.iload_n 1, 1) := by decide +kernel
theorem dX12_deal_2 : decode cX12_deal 2 = .ok (.iload_n 2, 1) := by decide +kernel
theorem dX12_deal_3 : decode cX12_deal 3 = .ok (.invokevirtual 237, 3) := by decide +kernel
theorem dX12_deal_6 : decode cX12_deal 6 = .ok (.ifCond .ne 6, 3) := by decide +kernel
theorem dX12_deal_9 : decode cX12_deal 9 = .ok (.ldc 209, 2) := by decide +kernel
theorem dX12_deal_11 : decode cX12_deal 11 = .ok (.ireturn, 1) := by decide +kernel
theorem dX12_deal_12 : decode cX12_deal 12 = .ok (.aload_n 0, 1) := by decide +kernel
theorem dX12_deal_13 : decode cX12_deal 13 = .ok (.iload_n 1, 1) := by decide +kernel
theorem dX12_deal_14 : decode cX12_deal 14 = .ok (.iload_n 2, 1) := by decide +kernel
theorem dX12_deal_15 : decode cX12_deal 15 = .ok (.invokevirtual 240, 3) := by decide +kernel
theorem dX12_deal_18 : decode cX12_deal 18 = .ok (.istore_n 3, 1) := by decide +kernel
theorem dX12_deal_19 : decode cX12_deal 19 = .ok (.aload_n 0, 1) := by decide +kernel
theorem dX12_deal_20 : decode cX12_deal 20 = .ok (.getfield 7, 3) := by decide +kernel
theorem dX12_deal_23 : decode cX12_deal 23 = .ok (.sipush 176, 3) := by decide +kernel
theorem dX12_deal_26 : decode cX12_deal 26 = .ok (.iconst 5, 1) := by decide +kernel
theorem dX12_deal_27 : decode cX12_deal 27 = .ok (.iload_n 1, 1) := by decide +kernel
theorem dX12_deal_28 : decode cX12_deal 28 = .ok (.imul, 1) := by decide +kernel
theorem dX12_deal_29 : decode cX12_deal 29 = .ok (.iadd, 1) := by decide +kernel
theorem dX12_deal_30 : decode cX12_deal 30 = .ok (.iconst 4, 1) := by decide +kernel
theorem dX12_deal_31 : decode cX12_deal 31 = .ok (.iadd, 1) := by decide +kernel
theorem dX12_deal_32 : decode cX12_deal 32 = .ok (.iconst 0, 1) := by decide +kernel
theorem dX12_deal_33 : decode cX12_deal 33 = .ok (.iastore, 1) := by decide +kernel
theorem dX12_deal_34 : decode cX12_deal 34 = .ok (.aload_n 0, 1) := by decide +kernel
theorem dX12_deal_35 : decode cX12_deal 35 = .ok (.getfield 7, 3) := by decide +kernel
theorem dX12_deal_38 : decode cX12_deal 38 = .ok (.sipush 176, 3) := by decide +kernel
theorem dX12_deal_41 : decode cX12_deal 41 = .ok (.iconst 5, 1) := by decide +kernel
theorem dX12_deal_42 : decode cX12_deal 42 = .ok (.iload_n 2, 1) := by decide +kernel
theorem dX12_deal_43 : decode cX12_deal 43 = .ok (.imul, 1) := by decide +kernel
theorem dX12_deal_44 : decode cX12_deal 44 = .ok (.iadd, 1) := by decide +kernel
theorem dX12_deal_45 : decode cX12_deal 45 = .ok (.iconst 4, 1) := by decide +kernel
theorem dX12_deal_46 : decode cX12_deal 46 = .ok (.iadd, 1) := by decide +kernel
theorem dX12_deal_47 : decode cX12_deal 47 = .ok (.iconst 0, 1) := by decide +kernel
theorem dX12_deal_48 : decode cX12_deal 48 = .ok (.iastore, 1) := by decide +kernel
theorem dX12_deal_49 : decode cX12_deal 49 = .ok (.iload_n 3, 1) := by decide +kernel
theorem dX12_deal_50 : decode cX12_deal 50 = .ok (.ireturn, 1) := by decide +kernel
theorem dX12_bestDeal_0 : decode cX12_bestDeal 0 = .ok (.iload_n 1, 1) := by decide +kernel
theorem dX12_bestDeal_1 : decode cX12_bestDeal 1 = .ok (.iconst 0, 1) := by decide +kernel
theorem dX12_bestDeal_2 : decode cX12_bestDeal 2 = .ok (.iconst 2, 1) := by decide +kernel
theorem dX12_bestDeal_3 : decode cX12_bestDeal 3 = .ok (.invokestatic 45, 3) := by decide +kernel
theorem dX12_bestDeal_6 : decode cX12_bestDeal 6 = .ok (.ifCond .ne 6, 3) := by decide +kernel
theorem dX12_bestDeal_9 : decode cX12_bestDeal 9 = .ok (.ldc 209, 2) := by decide +kernel
theorem dX12_bestDeal_11 : decode cX12_bestDeal 11 = .ok (.ireturn, 1) := by decide +kernel
theorem dX12_bestDeal_12 : decode cX12_bestDeal 12 = .ok (.iconst (-1), 1) := by decide +kernel
theorem dX12_bestDeal_13 : decode cX12_bestDeal 13 = .ok (.istore_n 2, 1) := by decide +kernel
theorem dX12_bestDeal_14 : decode cX12_bestDeal 14 = .ok (.iconst (-1), 1) := by decide +kernel
theorem dX12_bestDeal_15 : decode cX12_bestDeal 15 = .ok (.istore_n 3, 1) := by decide +kernel
theorem dX12_bestDeal_16 : decode cX12_bestDeal 16 = .ok (.iconst 0, 1) := by decide +kernel
theorem dX12_bestDeal_17 : decode cX12_bestDeal 17 = .ok (.istore 4, 2) := by decide +kernel
theorem dX12_bestDeal_19 : decode cX12_bestDeal 19 = .ok (.iconst 0, 1) := by decide +kernel
theorem dX12_bestDeal_20 : decode cX12_bestDeal 20 = .ok (.istore 5, 2) := by decide +kernel
theorem dX12_bestDeal_22 : decode cX12_bestDeal 22 = .ok (.iload 5, 2) := by decide +kernel
theorem dX12_bestDeal_24 : decode cX12_bestDeal 24 = .ok (.bipush 8, 2) := by decide +kernel
theorem dX12_bestDeal_26 : decode cX12_bestDeal 26 = .ok (.if_icmp .ge 89, 3) := by decide +kernel
theorem dX12_bestDeal_29 : decode cX12_bestDeal 29 = .ok (.iload 5, 2) := by decide +kernel
theorem dX12_bestDeal_31 : decode cX12_bestDeal 31 = .ok (.iconst 1, 1) := by decide +kernel
theorem dX12_bestDeal_32 : decode cX12_bestDeal 32 = .ok (.iadd, 1) := by decide +kernel
theorem dX12_bestDeal_33 : decode cX12_bestDeal 33 = .ok (.istore 6, 2) := by decide +kernel
theorem dX12_bestDeal_35 : decode cX12_bestDeal 35 = .ok (.iload 6, 2) := by decide +kernel
theorem dX12_bestDeal_37 : decode cX12_bestDeal 37 = .ok (.bipush 8, 2) := by decide +kernel
theorem dX12_bestDeal_39 : decode cX12_bestDeal 39 = .ok (.if_icmp .ge 70, 3) := by decide +kernel
theorem dX12_bestDeal_42 : decode cX12_bestDeal 42 = .ok (.aload_n 0, 1) := by decide +kernel
theorem dX12_bestDeal_43 : decode cX12_bestDeal 43 = .ok (.iload 5, 2) := by decide +kernel
theorem dX12_bestDeal_45 : decode cX12_bestDeal 45 = .ok (.iload 6, 2) := by decide +kernel
theorem dX12_bestDeal_47 : decode cX12_bestDeal 47 = .ok (.invokevirtual 237, 3) := by decide +kernel
theorem dX12_bestDeal_50 : decode cX12_bestDeal 50 = .ok (.ifCond .ne 6, 3) := by decide +kernel
theorem dX12_bestDeal_53 : decode cX12_bestDeal 53 = .ok (.goto 50, 3) := by decide +kernel
theorem dX12_bestDeal_56 : decode cX12_bestDeal 56 = .ok (.aload_n 0, 1) := by decide +kernel
theorem dX12_bestDeal_57 : decode cX12_bestDeal 57 = .ok (.bipush 8, 2) := by decide +kernel
theorem dX12_bestDeal_59 : decode cX12_bestDeal 59 = .ok (.invokevirtual 243, 3) := by decide +kernel
theorem dX12_bestDeal_62 : decode cX12_bestDeal 62 = .ok (.aload_n 0, 1) := by decide +kernel
theorem dX12_bestDeal_63 : decode cX12_bestDeal 63 = .ok (.iload 5, 2) := by decide +kernel
theorem dX12_bestDeal_65 : decode cX12_bestDeal 65 = .ok (.iload 6, 2) := by decide +kernel
theorem dX12_bestDeal_67 : decode cX12_bestDeal 67 = .ok (.invokevirtual 240, 3) := by decide +kernel
theorem dX12_bestDeal_70 : decode cX12_bestDeal 70 = .ok (.istore 7, 2) := by decide +kernel
theorem dX12_bestDeal_72 : decode cX12_bestDeal 72 = .ok (.aload_n 0, 1) := by decide +kernel
theorem dX12_bestDeal_73 : decode cX12_bestDeal 73 = .ok (.bipush 8, 2) := by decide +kernel
theorem dX12_bestDeal_75 : decode cX12_bestDeal 75 = .ok (.invokevirtual 246, 3) := by decide +kernel
theorem dX12_bestDeal_78 : decode cX12_bestDeal 78 = .ok (.iload_n 2, 1) := by decide +kernel
theorem dX12_bestDeal_79 : decode cX12_bestDeal 79 = .ok (.iconst (-1), 1) := by decide +kernel
theorem dX12_bestDeal_80 : decode cX12_bestDeal 80 = .ok (.if_icmp .eq 13, 3) := by decide +kernel
theorem dX12_bestDeal_83 : decode cX12_bestDeal 83 = .ok (.iload 7, 2) := by decide +kernel
theorem dX12_bestDeal_85 : decode cX12_bestDeal 85 = .ok (.iload 4, 2) := by decide +kernel
theorem dX12_bestDeal_87 : decode cX12_bestDeal 87 = .ok (.if_icmp .gt 6, 3) := by decide +kernel
theorem dX12_bestDeal_90 : decode cX12_bestDeal 90 = .ok (.goto 13, 3) := by decide +kernel
theorem dX12_bestDeal_93 : decode cX12_bestDeal 93 = .ok (.iload 5, 2) := by decide +kernel
theorem dX12_bestDeal_95 : decode cX12_bestDeal 95 = .ok (.istore_n 2, 1) := by decide +kernel
theorem dX12_bestDeal_96 : decode cX12_bestDeal 96 = .ok (.iload 6, 2) := by decide +kernel
theorem dX12_bestDeal_98 : decode cX12_bestDeal 98 = .ok (.istore_n 3, 1) := by decide +kernel
theorem dX12_bestDeal_99 : decode cX12_bestDeal 99 = .ok (.iload 7, 2) := by decide +kernel
theorem dX12_bestDeal_101 : decode cX12_bestDeal 101 = .ok (.istore 4, 2) := by decide +kernel
theorem dX12_bestDeal_103 : decode cX12_bestDeal 103 = .ok (.iinc 6 1, 3) := by decide +kernel
theorem dX12_bestDeal_106 : decode cX12_bestDeal 106 = .ok (.goto (-71), 3) := by decide +kernel
theorem dX12_bestDeal_109 : decode cX12_bestDeal 109 = .ok (.iinc 5 1, 3) := by decide +kernel
theorem dX12_bestDeal_112 : decode cX12_bestDeal 112 = .ok (.goto (-90), 3) := by decide +kernel
theorem dX12_bestDeal_115 : decode cX12_bestDeal 115 = .ok (.iload_n 2, 1) := by decide +kernel
theorem dX12_bestDeal_116 : decode cX12_bestDeal 116 = .ok (.iconst (-1), 1) := by decide +kernel
theorem dX12_bestDeal_117 : decode cX12_bestDeal 117 = .ok (.if_icmp .ne 8, 3) := by decide +kernel
theorem dX12_bestDeal_120 : decode cX12_bestDeal 120 = .ok (.ldc 209, 2) := by decide +kernel
theorem dX12_bestDeal_122 : decode cX12_bestDeal 122 = .ok (.goto 22, 3) := by decide +kernel
theorem dX12_bestDeal_125 : decode cX12_bestDeal 125 = .ok (.iload_n 1, 1) := by decide +kernel
theorem dX12_bestDeal_126 : decode cX12_bestDeal 126 = .ok (.ifCond .ne 7, 3) := by decide +kernel
theorem dX12_bestDeal_129 : decode cX12_bestDeal 129 = .ok (.iload_n 2, 1) := by decide +kernel
theorem dX12_bestDeal_130 : decode cX12_bestDeal 130 = .ok (.goto 14, 3) := by decide +kernel
theorem dX12_bestDeal_133 : decode cX12_bestDeal 133 = .ok (.iload_n 1, 1) := by decide +kernel
theorem dX12_bestDeal_134 : decode cX12_bestDeal 134 = .ok (.iconst 1, 1) := by decide +kernel
theorem dX12_bestDeal_135 : decode cX12_bestDeal 135 = .ok (.if_icmp .ne 7, 3) := by decide +kernel
theorem dX12_bestDeal_138 : decode cX12_bestDeal 138 = .ok (.iload_n 3, 1) := by decide +kernel
theorem dX12_bestDeal_139 : decode cX12_bestDeal 139 = .ok (.goto 5, 3) := by decide +kernel
theorem dX12_bestDeal_142 : decode cX12_bestDeal 142 = .ok (.iload 4, 2) := by decide +kernel
theorem dX12_bestDeal_144 : decode cX12_bestDeal 144 = .ok (.ireturn, 1) := by decide +kernel
theorem dX12_round_0 : decode cX12_round 0 = .ok (.aload_n 0, 1) := by decide +kernel
theorem dX12_round_1 : decode cX12_round 1 = .ok (.iload_n 1, 1) := by decide +kernel
theorem dX12_round_2 : decode cX12_round 2 = .ok (.invokevirtual 222, 3) := by decide +kernel
theorem dX12_round_5 : decode cX12_round 5 = .ok (.ifCond .eq 58, 3) := by decide +kernel
theorem dX12_round_8 : decode cX12_round 8 = .ok (.aload_n 0, 1) := by decide +kernel
theorem dX12_round_9 : decode cX12_round 9 = .ok (.iload_n 2, 1) := by decide +kernel
theorem dX12_round_10 : decode cX12_round 10 = .ok (.invokevirtual 222, 3) := by decide +kernel
theorem dX12_round_13 : decode cX12_round 13 = .ok (.ifCond .eq 50, 3) := by decide +kernel
theorem dX12_round_16 : decode cX12_round 16 = .ok (.aload_n 0, 1) := by decide +kernel
theorem dX12_round_17 : decode cX12_round 17 = .ok (.iload_n 3, 1) := by decide +kernel
theorem dX12_round_18 : decode cX12_round 18 = .ok (.invokevirtual 222, 3) := by decide +kernel
theorem dX12_round_21 : decode cX12_round 21 = .ok (.ifCond .eq 42, 3) := by decide +kernel
theorem dX12_round_24 : decode cX12_round 24 = .ok (.aload_n 0, 1) := by decide +kernel
theorem dX12_round_25 : decode cX12_round 25 = .ok (.iload_n 1, 1) := by decide +kernel
theorem dX12_round_26 : decode cX12_round 26 = .ok (.invokevirtual 228, 3) := by decide +kernel
theorem dX12_round_29 : decode cX12_round 29 = .ok (.aload_n 0, 1) := by decide +kernel
theorem dX12_round_30 : decode cX12_round 30 = .ok (.iload_n 2, 1) := by decide +kernel
theorem dX12_round_31 : decode cX12_round 31 = .ok (.invokevirtual 228, 3) := by decide +kernel
theorem dX12_round_34 : decode cX12_round 34 = .ok (.if_icmp .eq 29, 3) := by decide +kernel
theorem dX12_round_37 : decode cX12_round 37 = .ok (.aload_n 0, 1) := by decide +kernel
theorem dX12_round_38 : decode cX12_round 38 = .ok (.iload_n 2, 1) := by decide +kernel
theorem dX12_round_39 : decode cX12_round 39 = .ok (.invokevirtual 228, 3) := by decide +kernel
theorem dX12_round_42 : decode cX12_round 42 = .ok (.aload_n 0, 1) := by decide +kernel
theorem dX12_round_43 : decode cX12_round 43 = .ok (.iload_n 3, 1) := by decide +kernel
theorem dX12_round_44 : decode cX12_round 44 = .ok (.invokevirtual 228, 3) := by decide +kernel
theorem dX12_round_47 : decode cX12_round 47 = .ok (.if_icmp .eq 16, 3) := by decide +kernel
theorem dX12_round_50 : decode cX12_round 50 = .ok (.aload_n 0, 1) := by decide +kernel
theorem dX12_round_51 : decode cX12_round 51 = .ok (.iload_n 1, 1) := by decide +kernel
theorem dX12_round_52 : decode cX12_round 52 = .ok (.invokevirtual 228, 3) := by decide +kernel
theorem dX12_round_55 : decode cX12_round 55 = .ok (.aload_n 0, 1) := by decide +kernel
theorem dX12_round_56 : decode cX12_round 56 = .ok (.iload_n 3, 1) := by decide +kernel
theorem dX12_round_57 : decode cX12_round 57 = .ok (.invokevirtual 228, 3) := by decide +kernel
theorem dX12_round_60 : decode cX12_round 60 = .ok (.if_icmp .ne 6, 3) := by decide +kernel
theorem dX12_round_63 : decode cX12_round 63 = .ok (.ldc 209, 2) := by decide +kernel
theorem dX12_round_65 : decode cX12_round 65 = .ok (.ireturn, 1) := by decide +kernel
theorem dX12_round_66 : decode cX12_round 66 = .ok (.aload_n 0, 1) := by decide +kernel
theorem dX12_round_67 : decode cX12_round 67 = .ok (.iload_n 1, 1) := by decide +kernel
theorem dX12_round_68 : decode cX12_round 68 = .ok (.invokevirtual 231, 3) := by decide +kernel
theorem dX12_round_71 : decode cX12_round 71 = .ok (.ifCond .eq 46, 3) := by decide +kernel
theorem dX12_round_74 : decode cX12_round 74 = .ok (.aload_n 0, 1) := by decide +kernel
theorem dX12_round_75 : decode cX12_round 75 = .ok (.iload_n 2, 1) := by decide +kernel
theorem dX12_round_76 : decode cX12_round 76 = .ok (.invokevirtual 231, 3) := by decide +kernel
theorem dX12_round_79 : decode cX12_round 79 = .ok (.ifCond .eq 38, 3) := by decide +kernel
theorem dX12_round_82 : decode cX12_round 82 = .ok (.aload_n 0, 1) := by decide +kernel
theorem dX12_round_83 : decode cX12_round 83 = .ok (.iload_n 3, 1) := by decide +kernel
theorem dX12_round_84 : decode cX12_round 84 = .ok (.invokevirtual 231, 3) := by decide +kernel
theorem dX12_round_87 : decode cX12_round 87 = .ok (.ifCond .eq 30, 3) := by decide +kernel
theorem dX12_round_90 : decode cX12_round 90 = .ok (.aload_n 0, 1) := by decide +kernel
theorem dX12_round_91 : decode cX12_round 91 = .ok (.iload_n 1, 1) := by decide +kernel
theorem dX12_round_92 : decode cX12_round 92 = .ok (.iload_n 2, 1) := by decide +kernel
theorem dX12_round_93 : decode cX12_round 93 = .ok (.invokevirtual 234, 3) := by decide +kernel
theorem dX12_round_96 : decode cX12_round 96 = .ok (.ifCond .eq 21, 3) := by decide +kernel
theorem dX12_round_99 : decode cX12_round 99 = .ok (.aload_n 0, 1) := by decide +kernel
theorem dX12_round_100 : decode cX12_round 100 = .ok (.iload_n 2, 1) := by decide +kernel
theorem dX12_round_101 : decode cX12_round 101 = .ok (.iload_n 3, 1) := by decide +kernel
theorem dX12_round_102 : decode cX12_round 102 = .ok (.invokevirtual 234, 3) := by decide +kernel
theorem dX12_round_105 : decode cX12_round 105 = .ok (.ifCond .eq 12, 3) := by decide +kernel
theorem dX12_round_108 : decode cX12_round 108 = .ok (.aload_n 0, 1) := by decide +kernel
theorem dX12_round_109 : decode cX12_round 109 = .ok (.iload_n 3, 1) := by decide +kernel
theorem dX12_round_110 : decode cX12_round 110 = .ok (.iload_n 1, 1) := by decide +kernel
theorem dX12_round_111 : decode cX12_round 111 = .ok (.invokevirtual 234, 3) := by decide +kernel
theorem dX12_round_114 : decode cX12_round 114 = .ok (.ifCond .ne 6, 3) := by decide +kernel
theorem dX12_round_117 : decode cX12_round 117 = .ok (.ldc 209, 2) := by decide +kernel
theorem dX12_round_119 : decode cX12_round 119 = .ok (.ireturn, 1) := by decide +kernel
theorem dX12_round_120 : decode cX12_round 120 = .ok (.aload_n 0, 1) := by decide +kernel
theorem dX12_round_121 : decode cX12_round 121 = .ok (.invokevirtual 210, 3) := by decide +kernel
theorem dX12_round_124 : decode cX12_round 124 = .ok (.istore 4, 2) := by decide +kernel
theorem dX12_round_126 : decode cX12_round 126 = .ok (.aload_n 0, 1) := by decide +kernel
theorem dX12_round_127 : decode cX12_round 127 = .ok (.aload_n 0, 1) := by decide +kernel
theorem dX12_round_128 : decode cX12_round 128 = .ok (.iload_n 1, 1) := by decide +kernel
theorem dX12_round_129 : decode cX12_round 129 = .ok (.iconst 2, 1) := by decide +kernel
theorem dX12_round_130 : decode cX12_round 130 = .ok (.invokevirtual 225, 3) := by decide +kernel
theorem dX12_round_133 : decode cX12_round 133 = .ok (.aload_n 0, 1) := by decide +kernel
theorem dX12_round_134 : decode cX12_round 134 = .ok (.iload_n 2, 1) := by decide +kernel
theorem dX12_round_135 : decode cX12_round 135 = .ok (.iconst 0, 1) := by decide +kernel
theorem dX12_round_136 : decode cX12_round 136 = .ok (.invokevirtual 225, 3) := by decide +kernel
theorem dX12_round_139 : decode cX12_round 139 = .ok (.invokevirtual 213, 3) := by decide +kernel
theorem dX12_round_142 : decode cX12_round 142 = .ok (.aload_n 0, 1) := by decide +kernel
theorem dX12_round_143 : decode cX12_round 143 = .ok (.aload_n 0, 1) := by decide +kernel
theorem dX12_round_144 : decode cX12_round 144 = .ok (.iload_n 2, 1) := by decide +kernel
theorem dX12_round_145 : decode cX12_round 145 = .ok (.iconst 2, 1) := by decide +kernel
theorem dX12_round_146 : decode cX12_round 146 = .ok (.invokevirtual 225, 3) := by decide +kernel
theorem dX12_round_149 : decode cX12_round 149 = .ok (.aload_n 0, 1) := by decide +kernel
theorem dX12_round_150 : decode cX12_round 150 = .ok (.iload_n 3, 1) := by decide +kernel
theorem dX12_round_151 : decode cX12_round 151 = .ok (.iconst 0, 1) := by decide +kernel
theorem dX12_round_152 : decode cX12_round 152 = .ok (.invokevirtual 225, 3) := by decide +kernel
theorem dX12_round_155 : decode cX12_round 155 = .ok (.invokevirtual 213, 3) := by decide +kernel
theorem dX12_round_158 : decode cX12_round 158 = .ok (.aload_n 0, 1) := by decide +kernel
theorem dX12_round_159 : decode cX12_round 159 = .ok (.aload_n 0, 1) := by decide +kernel
theorem dX12_round_160 : decode cX12_round 160 = .ok (.iload_n 3, 1) := by decide +kernel
theorem dX12_round_161 : decode cX12_round 161 = .ok (.iconst 2, 1) := by decide +kernel
theorem dX12_round_162 : decode cX12_round 162 = .ok (.invokevirtual 225, 3) := by decide +kernel
theorem dX12_round_165 : decode cX12_round 165 = .ok (.aload_n 0, 1) := by decide +kernel
theorem dX12_round_166 : decode cX12_round 166 = .ok (.iload_n 1, 1) := by decide +kernel
theorem dX12_round_167 : decode cX12_round 167 = .ok (.iconst 0, 1) := by decide +kernel
theorem dX12_round_168 : decode cX12_round 168 = .ok (.invokevirtual 225, 3) := by decide +kernel
theorem dX12_round_171 : decode cX12_round 171 = .ok (.invokevirtual 213, 3) := by decide +kernel
theorem dX12_round_174 : decode cX12_round 174 = .ok (.aload_n 0, 1) := by decide +kernel
theorem dX12_round_175 : decode cX12_round 175 = .ok (.getfield 7, 3) := by decide +kernel
theorem dX12_round_178 : decode cX12_round 178 = .ok (.sipush 176, 3) := by decide +kernel
theorem dX12_round_181 : decode cX12_round 181 = .ok (.iconst 5, 1) := by decide +kernel
theorem dX12_round_182 : decode cX12_round 182 = .ok (.iload_n 1, 1) := by decide +kernel
theorem dX12_round_183 : decode cX12_round 183 = .ok (.imul, 1) := by decide +kernel
theorem dX12_round_184 : decode cX12_round 184 = .ok (.iadd, 1) := by decide +kernel
theorem dX12_round_185 : decode cX12_round 185 = .ok (.iconst 4, 1) := by decide +kernel
theorem dX12_round_186 : decode cX12_round 186 = .ok (.iadd, 1) := by decide +kernel
theorem dX12_round_187 : decode cX12_round 187 = .ok (.iconst 0, 1) := by decide +kernel
theorem dX12_round_188 : decode cX12_round 188 = .ok (.iastore, 1) := by decide +kernel
theorem dX12_round_189 : decode cX12_round 189 = .ok (.aload_n 0, 1) := by decide +kernel
theorem dX12_round_190 : decode cX12_round 190 = .ok (.getfield 7, 3) := by decide +kernel
theorem dX12_round_193 : decode cX12_round 193 = .ok (.sipush 176, 3) := by decide +kernel
theorem dX12_round_196 : decode cX12_round 196 = .ok (.iconst 5, 1) := by decide +kernel
theorem dX12_round_197 : decode cX12_round 197 = .ok (.iload_n 2, 1) := by decide +kernel
theorem dX12_round_198 : decode cX12_round 198 = .ok (.imul, 1) := by decide +kernel
theorem dX12_round_199 : decode cX12_round 199 = .ok (.iadd, 1) := by decide +kernel
theorem dX12_round_200 : decode cX12_round 200 = .ok (.iconst 4, 1) := by decide +kernel
theorem dX12_round_201 : decode cX12_round 201 = .ok (.iadd, 1) := by decide +kernel
theorem dX12_round_202 : decode cX12_round 202 = .ok (.iconst 0, 1) := by decide +kernel
theorem dX12_round_203 : decode cX12_round 203 = .ok (.iastore, 1) := by decide +kernel
theorem dX12_round_204 : decode cX12_round 204 = .ok (.aload_n 0, 1) := by decide +kernel
theorem dX12_round_205 : decode cX12_round 205 = .ok (.getfield 7, 3) := by decide +kernel
theorem dX12_round_208 : decode cX12_round 208 = .ok (.sipush 176, 3) := by decide +kernel
theorem dX12_round_211 : decode cX12_round 211 = .ok (.iconst 5, 1) := by decide +kernel
theorem dX12_round_212 : decode cX12_round 212 = .ok (.iload_n 3, 1) := by decide +kernel
theorem dX12_round_213 : decode cX12_round 213 = .ok (.imul, 1) := by decide +kernel
theorem dX12_round_214 : decode cX12_round 214 = .ok (.iadd, 1) := by decide +kernel
theorem dX12_round_215 : decode cX12_round 215 = .ok (.iconst 4, 1) := by decide +kernel
theorem dX12_round_216 : decode cX12_round 216 = .ok (.iadd, 1) := by decide +kernel
theorem dX12_round_217 : decode cX12_round 217 = .ok (.iconst 0, 1) := by decide +kernel
theorem dX12_round_218 : decode cX12_round 218 = .ok (.iastore, 1) := by decide +kernel
theorem dX12_round_219 : decode cX12_round 219 = .ok (.iload 4, 2) := by decide +kernel
theorem dX12_round_221 : decode cX12_round 221 = .ok (.aload_n 0, 1) := by decide +kernel
theorem dX12_round_222 : decode cX12_round 222 = .ok (.invokevirtual 210, 3) := by decide +kernel
theorem dX12_round_225 : decode cX12_round 225 = .ok (.isub, 1) := by decide +kernel
theorem dX12_round_226 : decode cX12_round 226 = .ok (.ireturn, 1) := by decide +kernel
theorem dX12_lineWaits_0 : decode cX12_lineWaits 0 = .ok (.iconst 0, 1) := by decide +kernel
theorem dX12_lineWaits_1 : decode cX12_lineWaits 1 = .ok (.istore_n 2, 1) := by decide +kernel
theorem dX12_lineWaits_2 : decode cX12_lineWaits 2 = .ok (.iconst 0, 1) := by decide +kernel
theorem dX12_lineWaits_3 : decode cX12_lineWaits 3 = .ok (.istore_n 3, 1) := by decide +kernel
theorem dX12_lineWaits_4 : decode cX12_lineWaits 4 = .ok (.iload_n 3, 1) := by decide +kernel
theorem dX12_lineWaits_5 : decode cX12_lineWaits 5 = .ok (.aload_n 0, 1) := by decide +kernel
theorem dX12_lineWaits_6 : decode cX12_lineWaits 6 = .ok (.getfield 7, 3) := by decide +kernel
theorem dX12_lineWaits_9 : decode cX12_lineWaits 9 = .ok (.sipush 173, 3) := by decide +kernel
theorem dX12_lineWaits_12 : decode cX12_lineWaits 12 = .ok (.iaload, 1) := by decide +kernel
theorem dX12_lineWaits_13 : decode cX12_lineWaits 13 = .ok (.if_icmp .ge 31, 3) := by decide +kernel
theorem dX12_lineWaits_16 : decode cX12_lineWaits 16 = .ok (.iload_n 2, 1) := by decide +kernel
theorem dX12_lineWaits_17 : decode cX12_lineWaits 17 = .ok (.aload_n 0, 1) := by decide +kernel
theorem dX12_lineWaits_18 : decode cX12_lineWaits 18 = .ok (.iload_n 3, 1) := by decide +kernel
theorem dX12_lineWaits_19 : decode cX12_lineWaits 19 = .ok (.iconst 0, 1) := by decide +kernel
theorem dX12_lineWaits_20 : decode cX12_lineWaits 20 = .ok (.invokevirtual 128, 3) := by decide +kernel
theorem dX12_lineWaits_23 : decode cX12_lineWaits 23 = .ok (.iload_n 1, 1) := by decide +kernel
theorem dX12_lineWaits_24 : decode cX12_lineWaits 24 = .ok (.if_icmp .ne 11, 3) := by decide +kernel
theorem dX12_lineWaits_27 : decode cX12_lineWaits 27 = .ok (.aload_n 0, 1) := by decide +kernel
theorem dX12_lineWaits_28 : decode cX12_lineWaits 28 = .ok (.iload_n 3, 1) := by decide +kernel
theorem dX12_lineWaits_29 : decode cX12_lineWaits 29 = .ok (.invokevirtual 194, 3) := by decide +kernel
theorem dX12_lineWaits_32 : decode cX12_lineWaits 32 = .ok (.goto 4, 3) := by decide +kernel
theorem dX12_lineWaits_35 : decode cX12_lineWaits 35 = .ok (.iconst 0, 1) := by decide +kernel
theorem dX12_lineWaits_36 : decode cX12_lineWaits 36 = .ok (.iadd, 1) := by decide +kernel
theorem dX12_lineWaits_37 : decode cX12_lineWaits 37 = .ok (.istore_n 2, 1) := by decide +kernel
theorem dX12_lineWaits_38 : decode cX12_lineWaits 38 = .ok (.iinc 3 1, 3) := by decide +kernel
theorem dX12_lineWaits_41 : decode cX12_lineWaits 41 = .ok (.goto (-37), 3) := by decide +kernel
theorem dX12_lineWaits_44 : decode cX12_lineWaits 44 = .ok (.iload_n 2, 1) := by decide +kernel
theorem dX12_lineWaits_45 : decode cX12_lineWaits 45 = .ok (.ireturn, 1) := by decide +kernel
theorem dX12_lineFlights_0 : decode cX12_lineFlights 0 = .ok (.iconst 0, 1) := by decide +kernel
theorem dX12_lineFlights_1 : decode cX12_lineFlights 1 = .ok (.istore_n 2, 1) := by decide +kernel
theorem dX12_lineFlights_2 : decode cX12_lineFlights 2 = .ok (.iconst 0, 1) := by decide +kernel
theorem dX12_lineFlights_3 : decode cX12_lineFlights 3 = .ok (.istore_n 3, 1) := by decide +kernel
theorem dX12_lineFlights_4 : decode cX12_lineFlights 4 = .ok (.iload_n 3, 1) := by decide +kernel
theorem dX12_lineFlights_5 : decode cX12_lineFlights 5 = .ok (.aload_n 0, 1) := by decide +kernel
theorem dX12_lineFlights_6 : decode cX12_lineFlights 6 = .ok (.getfield 7, 3) := by decide +kernel
theorem dX12_lineFlights_9 : decode cX12_lineFlights 9 = .ok (.sipush 173, 3) := by decide +kernel
theorem dX12_lineFlights_12 : decode cX12_lineFlights 12 = .ok (.iaload, 1) := by decide +kernel
theorem dX12_lineFlights_13 : decode cX12_lineFlights 13 = .ok (.if_icmp .ge 35, 3) := by decide +kernel
theorem dX12_lineFlights_16 : decode cX12_lineFlights 16 = .ok (.iload_n 2, 1) := by decide +kernel
theorem dX12_lineFlights_17 : decode cX12_lineFlights 17 = .ok (.aload_n 0, 1) := by decide +kernel
theorem dX12_lineFlights_18 : decode cX12_lineFlights 18 = .ok (.iload_n 3, 1) := by decide +kernel
theorem dX12_lineFlights_19 : decode cX12_lineFlights 19 = .ok (.iconst 0, 1) := by decide +kernel
theorem dX12_lineFlights_20 : decode cX12_lineFlights 20 = .ok (.invokevirtual 128, 3) := by decide +kernel
theorem dX12_lineFlights_23 : decode cX12_lineFlights 23 = .ok (.iload_n 1, 1) := by decide +kernel
theorem dX12_lineFlights_24 : decode cX12_lineFlights 24 = .ok (.if_icmp .ne 15, 3) := by decide +kernel
theorem dX12_lineFlights_27 : decode cX12_lineFlights 27 = .ok (.aload_n 0, 1) := by decide +kernel
theorem dX12_lineFlights_28 : decode cX12_lineFlights 28 = .ok (.iload_n 3, 1) := by decide +kernel
theorem dX12_lineFlights_29 : decode cX12_lineFlights 29 = .ok (.invokevirtual 144, 3) := by decide +kernel
theorem dX12_lineFlights_32 : decode cX12_lineFlights 32 = .ok (.ifCond .eq 7, 3) := by decide +kernel
theorem dX12_lineFlights_35 : decode cX12_lineFlights 35 = .ok (.iconst 1, 1) := by decide +kernel
theorem dX12_lineFlights_36 : decode cX12_lineFlights 36 = .ok (.goto 4, 3) := by decide +kernel
theorem dX12_lineFlights_39 : decode cX12_lineFlights 39 = .ok (.iconst 0, 1) := by decide +kernel
theorem dX12_lineFlights_40 : decode cX12_lineFlights 40 = .ok (.iadd, 1) := by decide +kernel
theorem dX12_lineFlights_41 : decode cX12_lineFlights 41 = .ok (.istore_n 2, 1) := by decide +kernel
theorem dX12_lineFlights_42 : decode cX12_lineFlights 42 = .ok (.iinc 3 1, 3) := by decide +kernel
theorem dX12_lineFlights_45 : decode cX12_lineFlights 45 = .ok (.goto (-41), 3) := by decide +kernel
theorem dX12_lineFlights_48 : decode cX12_lineFlights 48 = .ok (.iload_n 2, 1) := by decide +kernel
theorem dX12_lineFlights_49 : decode cX12_lineFlights 49 = .ok (.ireturn, 1) := by decide +kernel
theorem dX12_lineCounts_0 : decode cX12_lineCounts 0 = .ok (.iconst 0, 1) := by decide +kernel
theorem dX12_lineCounts_1 : decode cX12_lineCounts 1 = .ok (.istore_n 3, 1) := by decide +kernel
theorem dX12_lineCounts_2 : decode cX12_lineCounts 2 = .ok (.iconst 0, 1) := by decide +kernel
theorem dX12_lineCounts_3 : decode cX12_lineCounts 3 = .ok (.istore 4, 2) := by decide +kernel
theorem dX12_lineCounts_5 : decode cX12_lineCounts 5 = .ok (.iload 4, 2) := by decide +kernel
theorem dX12_lineCounts_7 : decode cX12_lineCounts 7 = .ok (.aload_n 0, 1) := by decide +kernel
theorem dX12_lineCounts_8 : decode cX12_lineCounts 8 = .ok (.getfield 7, 3) := by decide +kernel
theorem dX12_lineCounts_11 : decode cX12_lineCounts 11 = .ok (.sipush 173, 3) := by decide +kernel
theorem dX12_lineCounts_14 : decode cX12_lineCounts 14 = .ok (.iaload, 1) := by decide +kernel
theorem dX12_lineCounts_15 : decode cX12_lineCounts 15 = .ok (.if_icmp .ge 83, 3) := by decide +kernel
theorem dX12_lineCounts_18 : decode cX12_lineCounts 18 = .ok (.aload_n 0, 1) := by decide +kernel
theorem dX12_lineCounts_19 : decode cX12_lineCounts 19 = .ok (.iload 4, 2) := by decide +kernel
theorem dX12_lineCounts_21 : decode cX12_lineCounts 21 = .ok (.iconst 0, 1) := by decide +kernel
theorem dX12_lineCounts_22 : decode cX12_lineCounts 22 = .ok (.invokevirtual 128, 3) := by decide +kernel
theorem dX12_lineCounts_25 : decode cX12_lineCounts 25 = .ok (.iload_n 1, 1) := by decide +kernel
theorem dX12_lineCounts_26 : decode cX12_lineCounts 26 = .ok (.if_icmp .eq 6, 3) := by decide +kernel
theorem dX12_lineCounts_29 : decode cX12_lineCounts 29 = .ok (.goto 63, 3) := by decide +kernel
theorem dX12_lineCounts_32 : decode cX12_lineCounts 32 = .ok (.iload_n 2, 1) := by decide +kernel
theorem dX12_lineCounts_33 : decode cX12_lineCounts 33 = .ok (.iconst 4, 1) := by decide +kernel
theorem dX12_lineCounts_34 : decode cX12_lineCounts 34 = .ok (.if_icmp .ne 17, 3) := by decide +kernel
theorem dX12_lineCounts_37 : decode cX12_lineCounts 37 = .ok (.iload_n 3, 1) := by decide +kernel
theorem dX12_lineCounts_38 : decode cX12_lineCounts 38 = .ok (.aload_n 0, 1) := by decide +kernel
theorem dX12_lineCounts_39 : decode cX12_lineCounts 39 = .ok (.iload 4, 2) := by decide +kernel
theorem dX12_lineCounts_41 : decode cX12_lineCounts 41 = .ok (.invokevirtual 194, 3) := by decide +kernel
theorem dX12_lineCounts_44 : decode cX12_lineCounts 44 = .ok (.invokestatic 141, 3) := by decide +kernel
theorem dX12_lineCounts_47 : decode cX12_lineCounts 47 = .ok (.istore_n 3, 1) := by decide +kernel
theorem dX12_lineCounts_48 : decode cX12_lineCounts 48 = .ok (.goto 44, 3) := by decide +kernel
theorem dX12_lineCounts_51 : decode cX12_lineCounts 51 = .ok (.iload_n 3, 1) := by decide +kernel
theorem dX12_lineCounts_52 : decode cX12_lineCounts 52 = .ok (.iload_n 2, 1) := by decide +kernel
theorem dX12_lineCounts_53 : decode cX12_lineCounts 53 = .ok (.ifCond .ne 7, 3) := by decide +kernel
theorem dX12_lineCounts_56 : decode cX12_lineCounts 56 = .ok (.iconst 1, 1) := by decide +kernel
theorem dX12_lineCounts_57 : decode cX12_lineCounts 57 = .ok (.goto 33, 3) := by decide +kernel
theorem dX12_lineCounts_60 : decode cX12_lineCounts 60 = .ok (.iload_n 2, 1) := by decide +kernel
theorem dX12_lineCounts_61 : decode cX12_lineCounts 61 = .ok (.iconst 1, 1) := by decide +kernel
theorem dX12_lineCounts_62 : decode cX12_lineCounts 62 = .ok (.if_icmp .ne 14, 3) := by decide +kernel
theorem dX12_lineCounts_65 : decode cX12_lineCounts 65 = .ok (.aload_n 0, 1) := by decide +kernel
theorem dX12_lineCounts_66 : decode cX12_lineCounts 66 = .ok (.iload 4, 2) := by decide +kernel
theorem dX12_lineCounts_68 : decode cX12_lineCounts 68 = .ok (.bipush 7, 2) := by decide +kernel
theorem dX12_lineCounts_70 : decode cX12_lineCounts 70 = .ok (.invokevirtual 128, 3) := by decide +kernel
theorem dX12_lineCounts_73 : decode cX12_lineCounts 73 = .ok (.goto 17, 3) := by decide +kernel
theorem dX12_lineCounts_76 : decode cX12_lineCounts 76 = .ok (.aload_n 0, 1) := by decide +kernel
theorem dX12_lineCounts_77 : decode cX12_lineCounts 77 = .ok (.iload 4, 2) := by decide +kernel
theorem dX12_lineCounts_79 : decode cX12_lineCounts 79 = .ok (.invokevirtual 150, 3) := by decide +kernel
theorem dX12_lineCounts_82 : decode cX12_lineCounts 82 = .ok (.ifCond .eq 7, 3) := by decide +kernel
theorem dX12_lineCounts_85 : decode cX12_lineCounts 85 = .ok (.iconst 1, 1) := by decide +kernel
theorem dX12_lineCounts_86 : decode cX12_lineCounts 86 = .ok (.goto 4, 3) := by decide +kernel
theorem dX12_lineCounts_89 : decode cX12_lineCounts 89 = .ok (.iconst 0, 1) := by decide +kernel
theorem dX12_lineCounts_90 : decode cX12_lineCounts 90 = .ok (.iadd, 1) := by decide +kernel
theorem dX12_lineCounts_91 : decode cX12_lineCounts 91 = .ok (.istore_n 3, 1) := by decide +kernel
theorem dX12_lineCounts_92 : decode cX12_lineCounts 92 = .ok (.iinc 4 1, 3) := by decide +kernel
theorem dX12_lineCounts_95 : decode cX12_lineCounts 95 = .ok (.goto (-90), 3) := by decide +kernel
theorem dX12_lineCounts_98 : decode cX12_lineCounts 98 = .ok (.iload_n 3, 1) := by decide +kernel
theorem dX12_lineCounts_99 : decode cX12_lineCounts 99 = .ok (.ireturn, 1) := by decide +kernel
theorem dX12_keeps_0 : decode cX12_keeps 0 = .ok (.iconst 0, 1) := by decide +kernel
theorem dX12_keeps_1 : decode cX12_keeps 1 = .ok (.istore_n 2, 1) := by decide +kernel
theorem dX12_keeps_2 : decode cX12_keeps 2 = .ok (.iconst 0, 1) := by decide +kernel
theorem dX12_keeps_3 : decode cX12_keeps 3 = .ok (.istore_n 3, 1) := by decide +kernel
theorem dX12_keeps_4 : decode cX12_keeps 4 = .ok (.iload_n 3, 1) := by decide +kernel
theorem dX12_keeps_5 : decode cX12_keeps 5 = .ok (.sipush 1200, 3) := by decide +kernel
theorem dX12_keeps_8 : decode cX12_keeps 8 = .ok (.if_icmp .ge 33, 3) := by decide +kernel
theorem dX12_keeps_11 : decode cX12_keeps 11 = .ok (.iload_n 2, 1) := by decide +kernel
theorem dX12_keeps_12 : decode cX12_keeps 12 = .ok (.aload_n 0, 1) := by decide +kernel
theorem dX12_keeps_13 : decode cX12_keeps 13 = .ok (.getfield 7, 3) := by decide +kernel
theorem dX12_keeps_16 : decode cX12_keeps 16 = .ok (.sipush 252, 3) := by decide +kernel
theorem dX12_keeps_19 : decode cX12_keeps 19 = .ok (.iload_n 3, 1) := by decide +kernel
theorem dX12_keeps_20 : decode cX12_keeps 20 = .ok (.iadd, 1) := by decide +kernel
theorem dX12_keeps_21 : decode cX12_keeps 21 = .ok (.iaload, 1) := by decide +kernel
theorem dX12_keeps_22 : decode cX12_keeps 22 = .ok (.iload_n 1, 1) := by decide +kernel
theorem dX12_keeps_23 : decode cX12_keeps 23 = .ok (.iconst 1, 1) := by decide +kernel
theorem dX12_keeps_24 : decode cX12_keeps 24 = .ok (.iadd, 1) := by decide +kernel
theorem dX12_keeps_25 : decode cX12_keeps 25 = .ok (.if_icmp .ne 7, 3) := by decide +kernel
theorem dX12_keeps_28 : decode cX12_keeps 28 = .ok (.iconst 1, 1) := by decide +kernel
theorem dX12_keeps_29 : decode cX12_keeps 29 = .ok (.goto 4, 3) := by decide +kernel
theorem dX12_keeps_32 : decode cX12_keeps 32 = .ok (.iconst 0, 1) := by decide +kernel
theorem dX12_keeps_33 : decode cX12_keeps 33 = .ok (.iadd, 1) := by decide +kernel
theorem dX12_keeps_34 : decode cX12_keeps 34 = .ok (.istore_n 2, 1) := by decide +kernel
theorem dX12_keeps_35 : decode cX12_keeps 35 = .ok (.iinc 3 1, 3) := by decide +kernel
theorem dX12_keeps_38 : decode cX12_keeps 38 = .ok (.goto (-34), 3) := by decide +kernel
theorem dX12_keeps_41 : decode cX12_keeps 41 = .ok (.iload_n 2, 1) := by decide +kernel
theorem dX12_keeps_42 : decode cX12_keeps 42 = .ok (.ireturn, 1) := by decide +kernel
theorem dX12_line_0 : decode cX12_line 0 = .ok (.iload_n 1, 1) := by decide +kernel
theorem dX12_line_1 : decode cX12_line 1 = .ok (.invokestatic 104, 3) := by decide +kernel
theorem dX12_line_4 : decode cX12_line 4 = .ok (.ifCond .eq 13, 3) := by decide +kernel
theorem dX12_line_7 : decode cX12_line 7 = .ok (.iload_n 2, 1) := by decide +kernel
theorem dX12_line_8 : decode cX12_line 8 = .ok (.iconst 0, 1) := by decide +kernel
theorem dX12_line_9 : decode cX12_line 9 = .ok (.bipush 6, 2) := by decide +kernel
theorem dX12_line_11 : decode cX12_line 11 = .ok (.invokestatic 45, 3) := by decide +kernel
theorem dX12_line_14 : decode cX12_line 14 = .ok (.ifCond .ne 5, 3) := by decide +kernel
theorem dX12_line_17 : decode cX12_line 17 = .ok (.iconst (-1), 1) := by decide +kernel
theorem dX12_line_18 : decode cX12_line 18 = .ok (.ireturn, 1) := by decide +kernel
theorem dX12_line_19 : decode cX12_line 19 = .ok (.iload_n 2, 1) := by decide +kernel
theorem dX12_line_20 : decode cX12_line 20 = .ok (.tableswitch 50 2 5 #[32, 38, 50, 44], 32) := by decide +kernel
theorem dX12_line_52 : decode cX12_line 52 = .ok (.aload_n 0, 1) := by decide +kernel
theorem dX12_line_53 : decode cX12_line 53 = .ok (.iload_n 1, 1) := by decide +kernel
theorem dX12_line_54 : decode cX12_line 54 = .ok (.invokevirtual 249, 3) := by decide +kernel
theorem dX12_line_57 : decode cX12_line 57 = .ok (.ireturn, 1) := by decide +kernel
theorem dX12_line_58 : decode cX12_line 58 = .ok (.aload_n 0, 1) := by decide +kernel
theorem dX12_line_59 : decode cX12_line 59 = .ok (.iload_n 1, 1) := by decide +kernel
theorem dX12_line_60 : decode cX12_line 60 = .ok (.invokevirtual 252, 3) := by decide +kernel
theorem dX12_line_63 : decode cX12_line 63 = .ok (.ireturn, 1) := by decide +kernel
theorem dX12_line_64 : decode cX12_line 64 = .ok (.aload_n 0, 1) := by decide +kernel
theorem dX12_line_65 : decode cX12_line 65 = .ok (.iload_n 1, 1) := by decide +kernel
theorem dX12_line_66 : decode cX12_line 66 = .ok (.invokevirtual 255, 3) := by decide +kernel
theorem dX12_line_69 : decode cX12_line 69 = .ok (.ireturn, 1) := by decide +kernel
theorem dX12_line_70 : decode cX12_line 70 = .ok (.aload_n 0, 1) := by decide +kernel
theorem dX12_line_71 : decode cX12_line 71 = .ok (.iload_n 1, 1) := by decide +kernel
theorem dX12_line_72 : decode cX12_line 72 = .ok (.iload_n 2, 1) := by decide +kernel
theorem dX12_line_73 : decode cX12_line 73 = .ok (.invokevirtual 258, 3) := by decide +kernel
theorem dX12_line_76 : decode cX12_line 76 = .ok (.ireturn, 1) := by decide +kernel
theorem dX12_laysTraders_0 : decode cX12_laysTraders 0 = .ok (.aload_n 0, 1) := by decide +kernel
theorem dX12_laysTraders_1 : decode cX12_laysTraders 1 = .ok (.iconst 0, 1) := by decide +kernel
theorem dX12_laysTraders_2 : decode cX12_laysTraders 2 = .ok (.putfield 261, 3) := by decide +kernel
theorem dX12_laysTraders_5 : decode cX12_laysTraders 5 = .ok (.iconst 0, 1) := by decide +kernel
theorem dX12_laysTraders_6 : decode cX12_laysTraders 6 = .ok (.istore_n 2, 1) := by decide +kernel
theorem dX12_laysTraders_7 : decode cX12_laysTraders 7 = .ok (.iload_n 2, 1) := by decide +kernel
theorem dX12_laysTraders_8 : decode cX12_laysTraders 8 = .ok (.aload_n 0, 1) := by decide +kernel
theorem dX12_laysTraders_9 : decode cX12_laysTraders 9 = .ok (.getfield 7, 3) := by decide +kernel
theorem dX12_laysTraders_12 : decode cX12_laysTraders 12 = .ok (.sipush 173, 3) := by decide +kernel
theorem dX12_laysTraders_15 : decode cX12_laysTraders 15 = .ok (.iaload, 1) := by decide +kernel
theorem dX12_laysTraders_16 : decode cX12_laysTraders 16 = .ok (.if_icmp .ge 118, 3) := by decide +kernel
theorem dX12_laysTraders_19 : decode cX12_laysTraders 19 = .ok (.aload_n 0, 1) := by decide +kernel
theorem dX12_laysTraders_20 : decode cX12_laysTraders 20 = .ok (.getfield 261, 3) := by decide +kernel
theorem dX12_laysTraders_23 : decode cX12_laysTraders 23 = .ok (.bipush 6, 2) := by decide +kernel
theorem dX12_laysTraders_25 : decode cX12_laysTraders 25 = .ok (.if_icmp .ge 109, 3) := by decide +kernel
theorem dX12_laysTraders_28 : decode cX12_laysTraders 28 = .ok (.aload_n 0, 1) := by decide +kernel
theorem dX12_laysTraders_29 : decode cX12_laysTraders 29 = .ok (.iload_n 2, 1) := by decide +kernel
theorem dX12_laysTraders_30 : decode cX12_laysTraders 30 = .ok (.iconst 0, 1) := by decide +kernel
theorem dX12_laysTraders_31 : decode cX12_laysTraders 31 = .ok (.invokevirtual 128, 3) := by decide +kernel
theorem dX12_laysTraders_34 : decode cX12_laysTraders 34 = .ok (.iload_n 1, 1) := by decide +kernel
theorem dX12_laysTraders_35 : decode cX12_laysTraders 35 = .ok (.if_icmp .ne 93, 3) := by decide +kernel
theorem dX12_laysTraders_38 : decode cX12_laysTraders 38 = .ok (.aload_n 0, 1) := by decide +kernel
theorem dX12_laysTraders_39 : decode cX12_laysTraders 39 = .ok (.iload_n 2, 1) := by decide +kernel
theorem dX12_laysTraders_40 : decode cX12_laysTraders 40 = .ok (.invokevirtual 203, 3) := by decide +kernel
theorem dX12_laysTraders_43 : decode cX12_laysTraders 43 = .ok (.ifCond .ne 6, 3) := by decide +kernel
theorem dX12_laysTraders_46 : decode cX12_laysTraders 46 = .ok (.goto 82, 3) := by decide +kernel
theorem dX12_laysTraders_49 : decode cX12_laysTraders 49 = .ok (.aload_n 0, 1) := by decide +kernel
theorem dX12_laysTraders_50 : decode cX12_laysTraders 50 = .ok (.getfield 33, 3) := by decide +kernel
theorem dX12_laysTraders_53 : decode cX12_laysTraders 53 = .ok (.aload_n 0, 1) := by decide +kernel
theorem dX12_laysTraders_54 : decode cX12_laysTraders 54 = .ok (.getfield 261, 3) := by decide +kernel
theorem dX12_laysTraders_57 : decode cX12_laysTraders 57 = .ok (.iload_n 2, 1) := by decide +kernel
theorem dX12_laysTraders_58 : decode cX12_laysTraders 58 = .ok (.iastore, 1) := by decide +kernel
theorem dX12_laysTraders_59 : decode cX12_laysTraders 59 = .ok (.aload_n 0, 1) := by decide +kernel
theorem dX12_laysTraders_60 : decode cX12_laysTraders 60 = .ok (.getfield 261, 3) := by decide +kernel
theorem dX12_laysTraders_63 : decode cX12_laysTraders 63 = .ok (.istore_n 3, 1) := by decide +kernel
theorem dX12_laysTraders_64 : decode cX12_laysTraders 64 = .ok (.iload_n 3, 1) := by decide +kernel
theorem dX12_laysTraders_65 : decode cX12_laysTraders 65 = .ok (.ifCond .le 41, 3) := by decide +kernel
theorem dX12_laysTraders_68 : decode cX12_laysTraders 68 = .ok (.aload_n 0, 1) := by decide +kernel
theorem dX12_laysTraders_69 : decode cX12_laysTraders 69 = .ok (.getfield 36, 3) := by decide +kernel
theorem dX12_laysTraders_72 : decode cX12_laysTraders 72 = .ok (.iload_n 3, 1) := by decide +kernel
theorem dX12_laysTraders_73 : decode cX12_laysTraders 73 = .ok (.iconst 1, 1) := by decide +kernel
theorem dX12_laysTraders_74 : decode cX12_laysTraders 74 = .ok (.isub, 1) := by decide +kernel
theorem dX12_laysTraders_75 : decode cX12_laysTraders 75 = .ok (.iaload, 1) := by decide +kernel
theorem dX12_laysTraders_76 : decode cX12_laysTraders 76 = .ok (.aload_n 0, 1) := by decide +kernel
theorem dX12_laysTraders_77 : decode cX12_laysTraders 77 = .ok (.iload_n 2, 1) := by decide +kernel
theorem dX12_laysTraders_78 : decode cX12_laysTraders 78 = .ok (.iconst 4, 1) := by decide +kernel
theorem dX12_laysTraders_79 : decode cX12_laysTraders 79 = .ok (.invokevirtual 128, 3) := by decide +kernel
theorem dX12_laysTraders_82 : decode cX12_laysTraders 82 = .ok (.if_icmp .le 24, 3) := by decide +kernel
theorem dX12_laysTraders_85 : decode cX12_laysTraders 85 = .ok (.aload_n 0, 1) := by decide +kernel
theorem dX12_laysTraders_86 : decode cX12_laysTraders 86 = .ok (.getfield 36, 3) := by decide +kernel
theorem dX12_laysTraders_89 : decode cX12_laysTraders 89 = .ok (.iload_n 3, 1) := by decide +kernel
theorem dX12_laysTraders_90 : decode cX12_laysTraders 90 = .ok (.aload_n 0, 1) := by decide +kernel
theorem dX12_laysTraders_91 : decode cX12_laysTraders 91 = .ok (.getfield 36, 3) := by decide +kernel
theorem dX12_laysTraders_94 : decode cX12_laysTraders 94 = .ok (.iload_n 3, 1) := by decide +kernel
theorem dX12_laysTraders_95 : decode cX12_laysTraders 95 = .ok (.iconst 1, 1) := by decide +kernel
theorem dX12_laysTraders_96 : decode cX12_laysTraders 96 = .ok (.isub, 1) := by decide +kernel
theorem dX12_laysTraders_97 : decode cX12_laysTraders 97 = .ok (.iaload, 1) := by decide +kernel
theorem dX12_laysTraders_98 : decode cX12_laysTraders 98 = .ok (.iastore, 1) := by decide +kernel
theorem dX12_laysTraders_99 : decode cX12_laysTraders 99 = .ok (.iload_n 3, 1) := by decide +kernel
theorem dX12_laysTraders_100 : decode cX12_laysTraders 100 = .ok (.iconst 1, 1) := by decide +kernel
theorem dX12_laysTraders_101 : decode cX12_laysTraders 101 = .ok (.isub, 1) := by decide +kernel
theorem dX12_laysTraders_102 : decode cX12_laysTraders 102 = .ok (.istore_n 3, 1) := by decide +kernel
theorem dX12_laysTraders_103 : decode cX12_laysTraders 103 = .ok (.goto (-39), 3) := by decide +kernel
theorem dX12_laysTraders_106 : decode cX12_laysTraders 106 = .ok (.aload_n 0, 1) := by decide +kernel
theorem dX12_laysTraders_107 : decode cX12_laysTraders 107 = .ok (.getfield 36, 3) := by decide +kernel
theorem dX12_laysTraders_110 : decode cX12_laysTraders 110 = .ok (.iload_n 3, 1) := by decide +kernel
theorem dX12_laysTraders_111 : decode cX12_laysTraders 111 = .ok (.aload_n 0, 1) := by decide +kernel
theorem dX12_laysTraders_112 : decode cX12_laysTraders 112 = .ok (.iload_n 2, 1) := by decide +kernel
theorem dX12_laysTraders_113 : decode cX12_laysTraders 113 = .ok (.iconst 4, 1) := by decide +kernel
theorem dX12_laysTraders_114 : decode cX12_laysTraders 114 = .ok (.invokevirtual 128, 3) := by decide +kernel
theorem dX12_laysTraders_117 : decode cX12_laysTraders 117 = .ok (.iastore, 1) := by decide +kernel
theorem dX12_laysTraders_118 : decode cX12_laysTraders 118 = .ok (.aload_n 0, 1) := by decide +kernel
theorem dX12_laysTraders_119 : decode cX12_laysTraders 119 = .ok (.aload_n 0, 1) := by decide +kernel
theorem dX12_laysTraders_120 : decode cX12_laysTraders 120 = .ok (.getfield 261, 3) := by decide +kernel
theorem dX12_laysTraders_123 : decode cX12_laysTraders 123 = .ok (.iconst 1, 1) := by decide +kernel
theorem dX12_laysTraders_124 : decode cX12_laysTraders 124 = .ok (.iadd, 1) := by decide +kernel
theorem dX12_laysTraders_125 : decode cX12_laysTraders 125 = .ok (.putfield 261, 3) := by decide +kernel
theorem dX12_laysTraders_128 : decode cX12_laysTraders 128 = .ok (.iinc 2 1, 3) := by decide +kernel
theorem dX12_laysTraders_131 : decode cX12_laysTraders 131 = .ok (.goto (-124), 3) := by decide +kernel
theorem dX12_laysTraders_134 : decode cX12_laysTraders 134 = .ok (.return_, 1) := by decide +kernel
theorem dX12_goesOn_0 : decode cX12_goesOn 0 = .ok (.aload_n 0, 1) := by decide +kernel
theorem dX12_goesOn_1 : decode cX12_goesOn 1 = .ok (.getfield 261, 3) := by decide +kernel
theorem dX12_goesOn_4 : decode cX12_goesOn 4 = .ok (.iconst 2, 1) := by decide +kernel
theorem dX12_goesOn_5 : decode cX12_goesOn 5 = .ok (.isub, 1) := by decide +kernel
theorem dX12_goesOn_6 : decode cX12_goesOn 6 = .ok (.istore_n 1, 1) := by decide +kernel
theorem dX12_goesOn_7 : decode cX12_goesOn 7 = .ok (.iload_n 1, 1) := by decide +kernel
theorem dX12_goesOn_8 : decode cX12_goesOn 8 = .ok (.ifCond .lt 27, 3) := by decide +kernel
theorem dX12_goesOn_11 : decode cX12_goesOn 11 = .ok (.aload_n 0, 1) := by decide +kernel
theorem dX12_goesOn_12 : decode cX12_goesOn 12 = .ok (.getfield 39, 3) := by decide +kernel
theorem dX12_goesOn_15 : decode cX12_goesOn 15 = .ok (.iload_n 1, 1) := by decide +kernel
theorem dX12_goesOn_16 : decode cX12_goesOn 16 = .ok (.iaload, 1) := by decide +kernel
theorem dX12_goesOn_17 : decode cX12_goesOn 17 = .ok (.aload_n 0, 1) := by decide +kernel
theorem dX12_goesOn_18 : decode cX12_goesOn 18 = .ok (.getfield 39, 3) := by decide +kernel
theorem dX12_goesOn_21 : decode cX12_goesOn 21 = .ok (.iload_n 1, 1) := by decide +kernel
theorem dX12_goesOn_22 : decode cX12_goesOn 22 = .ok (.iconst 1, 1) := by decide +kernel
theorem dX12_goesOn_23 : decode cX12_goesOn 23 = .ok (.iadd, 1) := by decide +kernel
theorem dX12_goesOn_24 : decode cX12_goesOn 24 = .ok (.iaload, 1) := by decide +kernel
theorem dX12_goesOn_25 : decode cX12_goesOn 25 = .ok (.if_icmp .le 10, 3) := by decide +kernel
theorem dX12_goesOn_28 : decode cX12_goesOn 28 = .ok (.iload_n 1, 1) := by decide +kernel
theorem dX12_goesOn_29 : decode cX12_goesOn 29 = .ok (.iconst 1, 1) := by decide +kernel
theorem dX12_goesOn_30 : decode cX12_goesOn 30 = .ok (.isub, 1) := by decide +kernel
theorem dX12_goesOn_31 : decode cX12_goesOn 31 = .ok (.istore_n 1, 1) := by decide +kernel
theorem dX12_goesOn_32 : decode cX12_goesOn 32 = .ok (.goto (-25), 3) := by decide +kernel
theorem dX12_goesOn_35 : decode cX12_goesOn 35 = .ok (.iload_n 1, 1) := by decide +kernel
theorem dX12_goesOn_36 : decode cX12_goesOn 36 = .ok (.ifCond .ge 5, 3) := by decide +kernel
theorem dX12_goesOn_39 : decode cX12_goesOn 39 = .ok (.iconst 0, 1) := by decide +kernel
theorem dX12_goesOn_40 : decode cX12_goesOn 40 = .ok (.ireturn, 1) := by decide +kernel
theorem dX12_goesOn_41 : decode cX12_goesOn 41 = .ok (.aload_n 0, 1) := by decide +kernel
theorem dX12_goesOn_42 : decode cX12_goesOn 42 = .ok (.getfield 261, 3) := by decide +kernel
theorem dX12_goesOn_45 : decode cX12_goesOn 45 = .ok (.iconst 1, 1) := by decide +kernel
theorem dX12_goesOn_46 : decode cX12_goesOn 46 = .ok (.isub, 1) := by decide +kernel
theorem dX12_goesOn_47 : decode cX12_goesOn 47 = .ok (.istore_n 2, 1) := by decide +kernel
theorem dX12_goesOn_48 : decode cX12_goesOn 48 = .ok (.aload_n 0, 1) := by decide +kernel
theorem dX12_goesOn_49 : decode cX12_goesOn 49 = .ok (.getfield 39, 3) := by decide +kernel
theorem dX12_goesOn_52 : decode cX12_goesOn 52 = .ok (.iload_n 2, 1) := by decide +kernel
theorem dX12_goesOn_53 : decode cX12_goesOn 53 = .ok (.iaload, 1) := by decide +kernel
theorem dX12_goesOn_54 : decode cX12_goesOn 54 = .ok (.aload_n 0, 1) := by decide +kernel
theorem dX12_goesOn_55 : decode cX12_goesOn 55 = .ok (.getfield 39, 3) := by decide +kernel
theorem dX12_goesOn_58 : decode cX12_goesOn 58 = .ok (.iload_n 1, 1) := by decide +kernel
theorem dX12_goesOn_59 : decode cX12_goesOn 59 = .ok (.iaload, 1) := by decide +kernel
theorem dX12_goesOn_60 : decode cX12_goesOn 60 = .ok (.if_icmp .ge 10, 3) := by decide +kernel
theorem dX12_goesOn_63 : decode cX12_goesOn 63 = .ok (.iload_n 2, 1) := by decide +kernel
theorem dX12_goesOn_64 : decode cX12_goesOn 64 = .ok (.iconst 1, 1) := by decide +kernel
theorem dX12_goesOn_65 : decode cX12_goesOn 65 = .ok (.isub, 1) := by decide +kernel
theorem dX12_goesOn_66 : decode cX12_goesOn 66 = .ok (.istore_n 2, 1) := by decide +kernel
theorem dX12_goesOn_67 : decode cX12_goesOn 67 = .ok (.goto (-19), 3) := by decide +kernel
theorem dX12_goesOn_70 : decode cX12_goesOn 70 = .ok (.aload_n 0, 1) := by decide +kernel
theorem dX12_goesOn_71 : decode cX12_goesOn 71 = .ok (.getfield 39, 3) := by decide +kernel
theorem dX12_goesOn_74 : decode cX12_goesOn 74 = .ok (.iload_n 2, 1) := by decide +kernel
theorem dX12_goesOn_75 : decode cX12_goesOn 75 = .ok (.iaload, 1) := by decide +kernel
theorem dX12_goesOn_76 : decode cX12_goesOn 76 = .ok (.istore_n 3, 1) := by decide +kernel
theorem dX12_goesOn_77 : decode cX12_goesOn 77 = .ok (.aload_n 0, 1) := by decide +kernel
theorem dX12_goesOn_78 : decode cX12_goesOn 78 = .ok (.getfield 39, 3) := by decide +kernel
theorem dX12_goesOn_81 : decode cX12_goesOn 81 = .ok (.iload_n 2, 1) := by decide +kernel
theorem dX12_goesOn_82 : decode cX12_goesOn 82 = .ok (.aload_n 0, 1) := by decide +kernel
theorem dX12_goesOn_83 : decode cX12_goesOn 83 = .ok (.getfield 39, 3) := by decide +kernel
theorem dX12_goesOn_86 : decode cX12_goesOn 86 = .ok (.iload_n 1, 1) := by decide +kernel
theorem dX12_goesOn_87 : decode cX12_goesOn 87 = .ok (.iaload, 1) := by decide +kernel
theorem dX12_goesOn_88 : decode cX12_goesOn 88 = .ok (.iastore, 1) := by decide +kernel
theorem dX12_goesOn_89 : decode cX12_goesOn 89 = .ok (.aload_n 0, 1) := by decide +kernel
theorem dX12_goesOn_90 : decode cX12_goesOn 90 = .ok (.getfield 39, 3) := by decide +kernel
theorem dX12_goesOn_93 : decode cX12_goesOn 93 = .ok (.iload_n 1, 1) := by decide +kernel
theorem dX12_goesOn_94 : decode cX12_goesOn 94 = .ok (.iload_n 3, 1) := by decide +kernel
theorem dX12_goesOn_95 : decode cX12_goesOn 95 = .ok (.iastore, 1) := by decide +kernel
theorem dX12_goesOn_96 : decode cX12_goesOn 96 = .ok (.iload_n 1, 1) := by decide +kernel
theorem dX12_goesOn_97 : decode cX12_goesOn 97 = .ok (.iconst 1, 1) := by decide +kernel
theorem dX12_goesOn_98 : decode cX12_goesOn 98 = .ok (.iadd, 1) := by decide +kernel
theorem dX12_goesOn_99 : decode cX12_goesOn 99 = .ok (.istore 4, 2) := by decide +kernel
theorem dX12_goesOn_101 : decode cX12_goesOn 101 = .ok (.aload_n 0, 1) := by decide +kernel
theorem dX12_goesOn_102 : decode cX12_goesOn 102 = .ok (.getfield 261, 3) := by decide +kernel
theorem dX12_goesOn_105 : decode cX12_goesOn 105 = .ok (.iconst 1, 1) := by decide +kernel
theorem dX12_goesOn_106 : decode cX12_goesOn 106 = .ok (.isub, 1) := by decide +kernel
theorem dX12_goesOn_107 : decode cX12_goesOn 107 = .ok (.istore 5, 2) := by decide +kernel
theorem dX12_goesOn_109 : decode cX12_goesOn 109 = .ok (.iload 4, 2) := by decide +kernel
theorem dX12_goesOn_111 : decode cX12_goesOn 111 = .ok (.iload 5, 2) := by decide +kernel
theorem dX12_goesOn_113 : decode cX12_goesOn 113 = .ok (.if_icmp .ge 48, 3) := by decide +kernel
theorem dX12_goesOn_116 : decode cX12_goesOn 116 = .ok (.aload_n 0, 1) := by decide +kernel
theorem dX12_goesOn_117 : decode cX12_goesOn 117 = .ok (.getfield 39, 3) := by decide +kernel
theorem dX12_goesOn_120 : decode cX12_goesOn 120 = .ok (.iload 4, 2) := by decide +kernel
theorem dX12_goesOn_122 : decode cX12_goesOn 122 = .ok (.iaload, 1) := by decide +kernel
theorem dX12_goesOn_123 : decode cX12_goesOn 123 = .ok (.istore_n 3, 1) := by decide +kernel
theorem dX12_goesOn_124 : decode cX12_goesOn 124 = .ok (.aload_n 0, 1) := by decide +kernel
theorem dX12_goesOn_125 : decode cX12_goesOn 125 = .ok (.getfield 39, 3) := by decide +kernel
theorem dX12_goesOn_128 : decode cX12_goesOn 128 = .ok (.iload 4, 2) := by decide +kernel
theorem dX12_goesOn_130 : decode cX12_goesOn 130 = .ok (.aload_n 0, 1) := by decide +kernel
theorem dX12_goesOn_131 : decode cX12_goesOn 131 = .ok (.getfield 39, 3) := by decide +kernel
theorem dX12_goesOn_134 : decode cX12_goesOn 134 = .ok (.iload 5, 2) := by decide +kernel
theorem dX12_goesOn_136 : decode cX12_goesOn 136 = .ok (.iaload, 1) := by decide +kernel
theorem dX12_goesOn_137 : decode cX12_goesOn 137 = .ok (.iastore, 1) := by decide +kernel
theorem dX12_goesOn_138 : decode cX12_goesOn 138 = .ok (.aload_n 0, 1) := by decide +kernel
theorem dX12_goesOn_139 : decode cX12_goesOn 139 = .ok (.getfield 39, 3) := by decide +kernel
theorem dX12_goesOn_142 : decode cX12_goesOn 142 = .ok (.iload 5, 2) := by decide +kernel
theorem dX12_goesOn_144 : decode cX12_goesOn 144 = .ok (.iload_n 3, 1) := by decide +kernel
theorem dX12_goesOn_145 : decode cX12_goesOn 145 = .ok (.iastore, 1) := by decide +kernel
theorem dX12_goesOn_146 : decode cX12_goesOn 146 = .ok (.iload 4, 2) := by decide +kernel
theorem dX12_goesOn_148 : decode cX12_goesOn 148 = .ok (.iconst 1, 1) := by decide +kernel
theorem dX12_goesOn_149 : decode cX12_goesOn 149 = .ok (.iadd, 1) := by decide +kernel
theorem dX12_goesOn_150 : decode cX12_goesOn 150 = .ok (.istore 4, 2) := by decide +kernel
theorem dX12_goesOn_152 : decode cX12_goesOn 152 = .ok (.iload 5, 2) := by decide +kernel
theorem dX12_goesOn_154 : decode cX12_goesOn 154 = .ok (.iconst 1, 1) := by decide +kernel
theorem dX12_goesOn_155 : decode cX12_goesOn 155 = .ok (.isub, 1) := by decide +kernel
theorem dX12_goesOn_156 : decode cX12_goesOn 156 = .ok (.istore 5, 2) := by decide +kernel
theorem dX12_goesOn_158 : decode cX12_goesOn 158 = .ok (.goto (-49), 3) := by decide +kernel
theorem dX12_goesOn_161 : decode cX12_goesOn 161 = .ok (.iconst 1, 1) := by decide +kernel
theorem dX12_goesOn_162 : decode cX12_goesOn 162 = .ok (.ireturn, 1) := by decide +kernel
theorem dX12_rowCost_0 : decode cX12_rowCost 0 = .ok (.iconst 0, 1) := by decide +kernel
theorem dX12_rowCost_1 : decode cX12_rowCost 1 = .ok (.istore_n 1, 1) := by decide +kernel
theorem dX12_rowCost_2 : decode cX12_rowCost 2 = .ok (.iconst 0, 1) := by decide +kernel
theorem dX12_rowCost_3 : decode cX12_rowCost 3 = .ok (.istore_n 2, 1) := by decide +kernel
theorem dX12_rowCost_4 : decode cX12_rowCost 4 = .ok (.iload_n 2, 1) := by decide +kernel
theorem dX12_rowCost_5 : decode cX12_rowCost 5 = .ok (.aload_n 0, 1) := by decide +kernel
theorem dX12_rowCost_6 : decode cX12_rowCost 6 = .ok (.getfield 261, 3) := by decide +kernel
theorem dX12_rowCost_9 : decode cX12_rowCost 9 = .ok (.if_icmp .ge 60, 3) := by decide +kernel
theorem dX12_rowCost_12 : decode cX12_rowCost 12 = .ok (.aload_n 0, 1) := by decide +kernel
theorem dX12_rowCost_13 : decode cX12_rowCost 13 = .ok (.getfield 33, 3) := by decide +kernel
theorem dX12_rowCost_16 : decode cX12_rowCost 16 = .ok (.iload_n 2, 1) := by decide +kernel
theorem dX12_rowCost_17 : decode cX12_rowCost 17 = .ok (.iaload, 1) := by decide +kernel
theorem dX12_rowCost_18 : decode cX12_rowCost 18 = .ok (.istore_n 3, 1) := by decide +kernel
theorem dX12_rowCost_19 : decode cX12_rowCost 19 = .ok (.aload_n 0, 1) := by decide +kernel
theorem dX12_rowCost_20 : decode cX12_rowCost 20 = .ok (.getfield 36, 3) := by decide +kernel
theorem dX12_rowCost_23 : decode cX12_rowCost 23 = .ok (.aload_n 0, 1) := by decide +kernel
theorem dX12_rowCost_24 : decode cX12_rowCost 24 = .ok (.getfield 39, 3) := by decide +kernel
theorem dX12_rowCost_27 : decode cX12_rowCost 27 = .ok (.iload_n 2, 1) := by decide +kernel
theorem dX12_rowCost_28 : decode cX12_rowCost 28 = .ok (.iaload, 1) := by decide +kernel
theorem dX12_rowCost_29 : decode cX12_rowCost 29 = .ok (.iaload, 1) := by decide +kernel
theorem dX12_rowCost_30 : decode cX12_rowCost 30 = .ok (.istore 4, 2) := by decide +kernel
theorem dX12_rowCost_32 : decode cX12_rowCost 32 = .ok (.iload 4, 2) := by decide +kernel
theorem dX12_rowCost_34 : decode cX12_rowCost 34 = .ok (.aload_n 0, 1) := by decide +kernel
theorem dX12_rowCost_35 : decode cX12_rowCost 35 = .ok (.iload_n 3, 1) := by decide +kernel
theorem dX12_rowCost_36 : decode cX12_rowCost 36 = .ok (.invokevirtual 156, 3) := by decide +kernel
theorem dX12_rowCost_39 : decode cX12_rowCost 39 = .ok (.if_icmp .ge 5, 3) := by decide +kernel
theorem dX12_rowCost_42 : decode cX12_rowCost 42 = .ok (.iconst (-1), 1) := by decide +kernel
theorem dX12_rowCost_43 : decode cX12_rowCost 43 = .ok (.ireturn, 1) := by decide +kernel
theorem dX12_rowCost_44 : decode cX12_rowCost 44 = .ok (.iload_n 1, 1) := by decide +kernel
theorem dX12_rowCost_45 : decode cX12_rowCost 45 = .ok (.aload_n 0, 1) := by decide +kernel
theorem dX12_rowCost_46 : decode cX12_rowCost 46 = .ok (.iload_n 3, 1) := by decide +kernel
theorem dX12_rowCost_47 : decode cX12_rowCost 47 = .ok (.iconst 3, 1) := by decide +kernel
theorem dX12_rowCost_48 : decode cX12_rowCost 48 = .ok (.invokevirtual 128, 3) := by decide +kernel
theorem dX12_rowCost_51 : decode cX12_rowCost 51 = .ok (.iload 4, 2) := by decide +kernel
theorem dX12_rowCost_53 : decode cX12_rowCost 53 = .ok (.aload_n 0, 1) := by decide +kernel
theorem dX12_rowCost_54 : decode cX12_rowCost 54 = .ok (.iload_n 3, 1) := by decide +kernel
theorem dX12_rowCost_55 : decode cX12_rowCost 55 = .ok (.iconst 1, 1) := by decide +kernel
theorem dX12_rowCost_56 : decode cX12_rowCost 56 = .ok (.invokevirtual 128, 3) := by decide +kernel
theorem dX12_rowCost_59 : decode cX12_rowCost 59 = .ok (.isub, 1) := by decide +kernel
theorem dX12_rowCost_60 : decode cX12_rowCost 60 = .ok (.imul, 1) := by decide +kernel
theorem dX12_rowCost_61 : decode cX12_rowCost 61 = .ok (.iadd, 1) := by decide +kernel
theorem dX12_rowCost_62 : decode cX12_rowCost 62 = .ok (.istore_n 1, 1) := by decide +kernel
theorem dX12_rowCost_63 : decode cX12_rowCost 63 = .ok (.iinc 2 1, 3) := by decide +kernel
theorem dX12_rowCost_66 : decode cX12_rowCost 66 = .ok (.goto (-62), 3) := by decide +kernel
theorem dX12_rowCost_69 : decode cX12_rowCost 69 = .ok (.iload_n 1, 1) := by decide +kernel
theorem dX12_rowCost_70 : decode cX12_rowCost 70 = .ok (.ireturn, 1) := by decide +kernel
theorem dX12_orders_0 : decode cX12_orders 0 = .ok (.aload_n 0, 1) := by decide +kernel
theorem dX12_orders_1 : decode cX12_orders 1 = .ok (.iload_n 1, 1) := by decide +kernel
theorem dX12_orders_2 : decode cX12_orders 2 = .ok (.invokevirtual 264, 3) := by decide +kernel
theorem dX12_orders_5 : decode cX12_orders 5 = .ok (.iconst 0, 1) := by decide +kernel
theorem dX12_orders_6 : decode cX12_orders 6 = .ok (.istore_n 2, 1) := by decide +kernel
theorem dX12_orders_7 : decode cX12_orders 7 = .ok (.iload_n 2, 1) := by decide +kernel
theorem dX12_orders_8 : decode cX12_orders 8 = .ok (.aload_n 0, 1) := by decide +kernel
theorem dX12_orders_9 : decode cX12_orders 9 = .ok (.getfield 261, 3) := by decide +kernel
theorem dX12_orders_12 : decode cX12_orders 12 = .ok (.if_icmp .ge 16, 3) := by decide +kernel
theorem dX12_orders_15 : decode cX12_orders 15 = .ok (.aload_n 0, 1) := by decide +kernel
theorem dX12_orders_16 : decode cX12_orders 16 = .ok (.getfield 39, 3) := by decide +kernel
theorem dX12_orders_19 : decode cX12_orders 19 = .ok (.iload_n 2, 1) := by decide +kernel
theorem dX12_orders_20 : decode cX12_orders 20 = .ok (.iload_n 2, 1) := by decide +kernel
theorem dX12_orders_21 : decode cX12_orders 21 = .ok (.iastore, 1) := by decide +kernel
theorem dX12_orders_22 : decode cX12_orders 22 = .ok (.iinc 2 1, 3) := by decide +kernel
theorem dX12_orders_25 : decode cX12_orders 25 = .ok (.goto (-18), 3) := by decide +kernel
theorem dX12_orders_28 : decode cX12_orders 28 = .ok (.iconst (-1), 1) := by decide +kernel
theorem dX12_orders_29 : decode cX12_orders 29 = .ok (.istore_n 2, 1) := by decide +kernel
theorem dX12_orders_30 : decode cX12_orders 30 = .ok (.aload_n 0, 1) := by decide +kernel
theorem dX12_orders_31 : decode cX12_orders 31 = .ok (.getfield 261, 3) := by decide +kernel
theorem dX12_orders_34 : decode cX12_orders 34 = .ok (.ifCond .le 7, 3) := by decide +kernel
theorem dX12_orders_37 : decode cX12_orders 37 = .ok (.iconst 1, 1) := by decide +kernel
theorem dX12_orders_38 : decode cX12_orders 38 = .ok (.goto 4, 3) := by decide +kernel
theorem dX12_orders_41 : decode cX12_orders 41 = .ok (.iconst 0, 1) := by decide +kernel
theorem dX12_orders_42 : decode cX12_orders 42 = .ok (.istore_n 3, 1) := by decide +kernel
theorem dX12_orders_43 : decode cX12_orders 43 = .ok (.iload_n 3, 1) := by decide +kernel
theorem dX12_orders_44 : decode cX12_orders 44 = .ok (.ifCond .eq 74, 3) := by decide +kernel
theorem dX12_orders_47 : decode cX12_orders 47 = .ok (.aload_n 0, 1) := by decide +kernel
theorem dX12_orders_48 : decode cX12_orders 48 = .ok (.invokevirtual 267, 3) := by decide +kernel
theorem dX12_orders_51 : decode cX12_orders 51 = .ok (.istore 4, 2) := by decide +kernel
theorem dX12_orders_53 : decode cX12_orders 53 = .ok (.iload 4, 2) := by decide +kernel
theorem dX12_orders_55 : decode cX12_orders 55 = .ok (.iconst (-1), 1) := by decide +kernel
theorem dX12_orders_56 : decode cX12_orders 56 = .ok (.if_icmp .eq 54, 3) := by decide +kernel
theorem dX12_orders_59 : decode cX12_orders 59 = .ok (.iload_n 2, 1) := by decide +kernel
theorem dX12_orders_60 : decode cX12_orders 60 = .ok (.iconst (-1), 1) := by decide +kernel
theorem dX12_orders_61 : decode cX12_orders 61 = .ok (.if_icmp .eq 9, 3) := by decide +kernel
theorem dX12_orders_64 : decode cX12_orders 64 = .ok (.iload 4, 2) := by decide +kernel
theorem dX12_orders_66 : decode cX12_orders 66 = .ok (.iload_n 2, 1) := by decide +kernel
theorem dX12_orders_67 : decode cX12_orders 67 = .ok (.if_icmp .ge 43, 3) := by decide +kernel
theorem dX12_orders_70 : decode cX12_orders 70 = .ok (.iload 4, 2) := by decide +kernel
theorem dX12_orders_72 : decode cX12_orders 72 = .ok (.istore_n 2, 1) := by decide +kernel
theorem dX12_orders_73 : decode cX12_orders 73 = .ok (.iconst 0, 1) := by decide +kernel
theorem dX12_orders_74 : decode cX12_orders 74 = .ok (.istore 5, 2) := by decide +kernel
theorem dX12_orders_76 : decode cX12_orders 76 = .ok (.iload 5, 2) := by decide +kernel
theorem dX12_orders_78 : decode cX12_orders 78 = .ok (.aload_n 0, 1) := by decide +kernel
theorem dX12_orders_79 : decode cX12_orders 79 = .ok (.getfield 261, 3) := by decide +kernel
theorem dX12_orders_82 : decode cX12_orders 82 = .ok (.if_icmp .ge 28, 3) := by decide +kernel
theorem dX12_orders_85 : decode cX12_orders 85 = .ok (.aload_n 0, 1) := by decide +kernel
theorem dX12_orders_86 : decode cX12_orders 86 = .ok (.getfield 42, 3) := by decide +kernel
theorem dX12_orders_89 : decode cX12_orders 89 = .ok (.iload 5, 2) := by decide +kernel
theorem dX12_orders_91 : decode cX12_orders 91 = .ok (.aload_n 0, 1) := by decide +kernel
theorem dX12_orders_92 : decode cX12_orders 92 = .ok (.getfield 36, 3) := by decide +kernel
theorem dX12_orders_95 : decode cX12_orders 95 = .ok (.aload_n 0, 1) := by decide +kernel
theorem dX12_orders_96 : decode cX12_orders 96 = .ok (.getfield 39, 3) := by decide +kernel
theorem dX12_orders_99 : decode cX12_orders 99 = .ok (.iload 5, 2) := by decide +kernel
theorem dX12_orders_101 : decode cX12_orders 101 = .ok (.iaload, 1) := by decide +kernel
theorem dX12_orders_102 : decode cX12_orders 102 = .ok (.iaload, 1) := by decide +kernel
theorem dX12_orders_103 : decode cX12_orders 103 = .ok (.iastore, 1) := by decide +kernel
theorem dX12_orders_104 : decode cX12_orders 104 = .ok (.iinc 5 1, 3) := by decide +kernel
theorem dX12_orders_107 : decode cX12_orders 107 = .ok (.goto (-31), 3) := by decide +kernel
theorem dX12_orders_110 : decode cX12_orders 110 = .ok (.aload_n 0, 1) := by decide +kernel
theorem dX12_orders_111 : decode cX12_orders 111 = .ok (.invokevirtual 270, 3) := by decide +kernel
theorem dX12_orders_114 : decode cX12_orders 114 = .ok (.istore_n 3, 1) := by decide +kernel
theorem dX12_orders_115 : decode cX12_orders 115 = .ok (.goto (-72), 3) := by decide +kernel
theorem dX12_orders_118 : decode cX12_orders 118 = .ok (.iconst 0, 1) := by decide +kernel
theorem dX12_orders_119 : decode cX12_orders 119 = .ok (.istore 4, 2) := by decide +kernel
theorem dX12_orders_121 : decode cX12_orders 121 = .ok (.iload 4, 2) := by decide +kernel
theorem dX12_orders_123 : decode cX12_orders 123 = .ok (.aload_n 0, 1) := by decide +kernel
theorem dX12_orders_124 : decode cX12_orders 124 = .ok (.getfield 261, 3) := by decide +kernel
theorem dX12_orders_127 : decode cX12_orders 127 = .ok (.if_icmp .ge 32, 3) := by decide +kernel
theorem dX12_orders_130 : decode cX12_orders 130 = .ok (.iload_n 2, 1) := by decide +kernel
theorem dX12_orders_131 : decode cX12_orders 131 = .ok (.iconst (-1), 1) := by decide +kernel
theorem dX12_orders_132 : decode cX12_orders 132 = .ok (.if_icmp .eq 27, 3) := by decide +kernel
theorem dX12_orders_135 : decode cX12_orders 135 = .ok (.aload_n 0, 1) := by decide +kernel
theorem dX12_orders_136 : decode cX12_orders 136 = .ok (.aload_n 0, 1) := by decide +kernel
theorem dX12_orders_137 : decode cX12_orders 137 = .ok (.getfield 33, 3) := by decide +kernel
theorem dX12_orders_140 : decode cX12_orders 140 = .ok (.iload 4, 2) := by decide +kernel
theorem dX12_orders_142 : decode cX12_orders 142 = .ok (.iaload, 1) := by decide +kernel
theorem dX12_orders_143 : decode cX12_orders 143 = .ok (.aload_n 0, 1) := by decide +kernel
theorem dX12_orders_144 : decode cX12_orders 144 = .ok (.getfield 42, 3) := by decide +kernel
theorem dX12_orders_147 : decode cX12_orders 147 = .ok (.iload 4, 2) := by decide +kernel
theorem dX12_orders_149 : decode cX12_orders 149 = .ok (.iaload, 1) := by decide +kernel
theorem dX12_orders_150 : decode cX12_orders 150 = .ok (.invokevirtual 174, 3) := by decide +kernel
theorem dX12_orders_153 : decode cX12_orders 153 = .ok (.iinc 4 1, 3) := by decide +kernel
theorem dX12_orders_156 : decode cX12_orders 156 = .ok (.goto (-35), 3) := by decide +kernel
theorem dX12_orders_159 : decode cX12_orders 159 = .ok (.return_, 1) := by decide +kernel
theorem dX12_bestOrder_0 : decode cX12_bestOrder 0 = .ok (.iload_n 1, 1) := by decide +kernel
theorem dX12_bestOrder_1 : decode cX12_bestOrder 1 = .ok (.invokestatic 104, 3) := by decide +kernel
theorem dX12_bestOrder_4 : decode cX12_bestOrder 4 = .ok (.ifCond .eq 16, 3) := by decide +kernel
theorem dX12_bestOrder_7 : decode cX12_bestOrder 7 = .ok (.iload_n 2, 1) := by decide +kernel
theorem dX12_bestOrder_8 : decode cX12_bestOrder 8 = .ok (.iconst (-1), 1) := by decide +kernel
theorem dX12_bestOrder_9 : decode cX12_bestOrder 9 = .ok (.if_icmp .eq 13, 3) := by decide +kernel
theorem dX12_bestOrder_12 : decode cX12_bestOrder 12 = .ok (.aload_n 0, 1) := by decide +kernel
theorem dX12_bestOrder_13 : decode cX12_bestOrder 13 = .ok (.iload_n 2, 1) := by decide +kernel
theorem dX12_bestOrder_14 : decode cX12_bestOrder 14 = .ok (.invokevirtual 153, 3) := by decide +kernel
theorem dX12_bestOrder_17 : decode cX12_bestOrder 17 = .ok (.ifCond .ne 5, 3) := by decide +kernel
theorem dX12_bestOrder_20 : decode cX12_bestOrder 20 = .ok (.iconst (-1), 1) := by decide +kernel
theorem dX12_bestOrder_21 : decode cX12_bestOrder 21 = .ok (.ireturn, 1) := by decide +kernel
theorem dX12_bestOrder_22 : decode cX12_bestOrder 22 = .ok (.iload_n 2, 1) := by decide +kernel
theorem dX12_bestOrder_23 : decode cX12_bestOrder 23 = .ok (.iconst (-1), 1) := by decide +kernel
theorem dX12_bestOrder_24 : decode cX12_bestOrder 24 = .ok (.if_icmp .eq 24, 3) := by decide +kernel
theorem dX12_bestOrder_27 : decode cX12_bestOrder 27 = .ok (.aload_n 0, 1) := by decide +kernel
theorem dX12_bestOrder_28 : decode cX12_bestOrder 28 = .ok (.iload_n 2, 1) := by decide +kernel
theorem dX12_bestOrder_29 : decode cX12_bestOrder 29 = .ok (.iconst 0, 1) := by decide +kernel
theorem dX12_bestOrder_30 : decode cX12_bestOrder 30 = .ok (.invokevirtual 128, 3) := by decide +kernel
theorem dX12_bestOrder_33 : decode cX12_bestOrder 33 = .ok (.iload_n 1, 1) := by decide +kernel
theorem dX12_bestOrder_34 : decode cX12_bestOrder 34 = .ok (.if_icmp .ne 11, 3) := by decide +kernel
theorem dX12_bestOrder_37 : decode cX12_bestOrder 37 = .ok (.aload_n 0, 1) := by decide +kernel
theorem dX12_bestOrder_38 : decode cX12_bestOrder 38 = .ok (.iload_n 2, 1) := by decide +kernel
theorem dX12_bestOrder_39 : decode cX12_bestOrder 39 = .ok (.invokevirtual 144, 3) := by decide +kernel
theorem dX12_bestOrder_42 : decode cX12_bestOrder 42 = .ok (.ifCond .ne 6, 3) := by decide +kernel
theorem dX12_bestOrder_45 : decode cX12_bestOrder 45 = .ok (.bipush (-2), 2) := by decide +kernel
theorem dX12_bestOrder_47 : decode cX12_bestOrder 47 = .ok (.ireturn, 1) := by decide +kernel
theorem dX12_bestOrder_48 : decode cX12_bestOrder 48 = .ok (.aload_n 0, 1) := by decide +kernel
theorem dX12_bestOrder_49 : decode cX12_bestOrder 49 = .ok (.bipush 8, 2) := by decide +kernel
theorem dX12_bestOrder_51 : decode cX12_bestOrder 51 = .ok (.invokevirtual 243, 3) := by decide +kernel
theorem dX12_bestOrder_54 : decode cX12_bestOrder 54 = .ok (.aload_n 0, 1) := by decide +kernel
theorem dX12_bestOrder_55 : decode cX12_bestOrder 55 = .ok (.iload_n 1, 1) := by decide +kernel
theorem dX12_bestOrder_56 : decode cX12_bestOrder 56 = .ok (.invokevirtual 274, 3) := by decide +kernel
theorem dX12_bestOrder_59 : decode cX12_bestOrder 59 = .ok (.iload_n 2, 1) := by decide +kernel
theorem dX12_bestOrder_60 : decode cX12_bestOrder 60 = .ok (.iconst (-1), 1) := by decide +kernel
theorem dX12_bestOrder_61 : decode cX12_bestOrder 61 = .ok (.if_icmp .ne 11, 3) := by decide +kernel
theorem dX12_bestOrder_64 : decode cX12_bestOrder 64 = .ok (.aload_n 0, 1) := by decide +kernel
theorem dX12_bestOrder_65 : decode cX12_bestOrder 65 = .ok (.iload_n 1, 1) := by decide +kernel
theorem dX12_bestOrder_66 : decode cX12_bestOrder 66 = .ok (.invokevirtual 252, 3) := by decide +kernel
theorem dX12_bestOrder_69 : decode cX12_bestOrder 69 = .ok (.goto 9, 3) := by decide +kernel
theorem dX12_bestOrder_72 : decode cX12_bestOrder 72 = .ok (.aload_n 0, 1) := by decide +kernel
theorem dX12_bestOrder_73 : decode cX12_bestOrder 73 = .ok (.iload_n 2, 1) := by decide +kernel
theorem dX12_bestOrder_74 : decode cX12_bestOrder 74 = .ok (.iconst 4, 1) := by decide +kernel
theorem dX12_bestOrder_75 : decode cX12_bestOrder 75 = .ok (.invokevirtual 128, 3) := by decide +kernel
theorem dX12_bestOrder_78 : decode cX12_bestOrder 78 = .ok (.istore_n 3, 1) := by decide +kernel
theorem dX12_bestOrder_79 : decode cX12_bestOrder 79 = .ok (.aload_n 0, 1) := by decide +kernel
theorem dX12_bestOrder_80 : decode cX12_bestOrder 80 = .ok (.bipush 8, 2) := by decide +kernel
theorem dX12_bestOrder_82 : decode cX12_bestOrder 82 = .ok (.invokevirtual 246, 3) := by decide +kernel
theorem dX12_bestOrder_85 : decode cX12_bestOrder 85 = .ok (.iload_n 3, 1) := by decide +kernel
theorem dX12_bestOrder_86 : decode cX12_bestOrder 86 = .ok (.ireturn, 1) := by decide +kernel
theorem dX12_order_0 : decode cX12_order 0 = .ok (.iload_n 1, 1) := by decide +kernel
theorem dX12_order_1 : decode cX12_order 1 = .ok (.invokestatic 104, 3) := by decide +kernel
theorem dX12_order_4 : decode cX12_order 4 = .ok (.ifCond .ne 5, 3) := by decide +kernel
theorem dX12_order_7 : decode cX12_order 7 = .ok (.iconst (-1), 1) := by decide +kernel
theorem dX12_order_8 : decode cX12_order 8 = .ok (.ireturn, 1) := by decide +kernel
theorem dX12_order_9 : decode cX12_order 9 = .ok (.aload_n 0, 1) := by decide +kernel
theorem dX12_order_10 : decode cX12_order 10 = .ok (.iload_n 1, 1) := by decide +kernel
theorem dX12_order_11 : decode cX12_order 11 = .ok (.invokevirtual 252, 3) := by decide +kernel
theorem dX12_order_14 : decode cX12_order 14 = .ok (.istore_n 2, 1) := by decide +kernel
theorem dX12_order_15 : decode cX12_order 15 = .ok (.aload_n 0, 1) := by decide +kernel
theorem dX12_order_16 : decode cX12_order 16 = .ok (.iload_n 1, 1) := by decide +kernel
theorem dX12_order_17 : decode cX12_order 17 = .ok (.invokevirtual 274, 3) := by decide +kernel
theorem dX12_order_20 : decode cX12_order 20 = .ok (.iload_n 2, 1) := by decide +kernel
theorem dX12_order_21 : decode cX12_order 21 = .ok (.aload_n 0, 1) := by decide +kernel
theorem dX12_order_22 : decode cX12_order 22 = .ok (.iload_n 1, 1) := by decide +kernel
theorem dX12_order_23 : decode cX12_order 23 = .ok (.invokevirtual 252, 3) := by decide +kernel
theorem dX12_order_26 : decode cX12_order 26 = .ok (.isub, 1) := by decide +kernel
theorem dX12_order_27 : decode cX12_order 27 = .ok (.ireturn, 1) := by decide +kernel
theorem dX12_bestCancel_0 : decode cX12_bestCancel 0 = .ok (.iload_n 1, 1) := by decide +kernel
theorem dX12_bestCancel_1 : decode cX12_bestCancel 1 = .ok (.invokestatic 104, 3) := by decide +kernel
theorem dX12_bestCancel_4 : decode cX12_bestCancel 4 = .ok (.ifCond .eq 12, 3) := by decide +kernel
theorem dX12_bestCancel_7 : decode cX12_bestCancel 7 = .ok (.iload_n 2, 1) := by decide +kernel
theorem dX12_bestCancel_8 : decode cX12_bestCancel 8 = .ok (.iconst 0, 1) := by decide +kernel
theorem dX12_bestCancel_9 : decode cX12_bestCancel 9 = .ok (.iconst 1, 1) := by decide +kernel
theorem dX12_bestCancel_10 : decode cX12_bestCancel 10 = .ok (.invokestatic 45, 3) := by decide +kernel
theorem dX12_bestCancel_13 : decode cX12_bestCancel 13 = .ok (.ifCond .ne 5, 3) := by decide +kernel
theorem dX12_bestCancel_16 : decode cX12_bestCancel 16 = .ok (.iconst (-1), 1) := by decide +kernel
theorem dX12_bestCancel_17 : decode cX12_bestCancel 17 = .ok (.ireturn, 1) := by decide +kernel
theorem dX12_bestCancel_18 : decode cX12_bestCancel 18 = .ok (.iconst (-1), 1) := by decide +kernel
theorem dX12_bestCancel_19 : decode cX12_bestCancel 19 = .ok (.istore_n 3, 1) := by decide +kernel
theorem dX12_bestCancel_20 : decode cX12_bestCancel 20 = .ok (.iconst 0, 1) := by decide +kernel
theorem dX12_bestCancel_21 : decode cX12_bestCancel 21 = .ok (.istore 4, 2) := by decide +kernel
theorem dX12_bestCancel_23 : decode cX12_bestCancel 23 = .ok (.iconst 0, 1) := by decide +kernel
theorem dX12_bestCancel_24 : decode cX12_bestCancel 24 = .ok (.istore 5, 2) := by decide +kernel
theorem dX12_bestCancel_26 : decode cX12_bestCancel 26 = .ok (.iload 5, 2) := by decide +kernel
theorem dX12_bestCancel_28 : decode cX12_bestCancel 28 = .ok (.aload_n 0, 1) := by decide +kernel
theorem dX12_bestCancel_29 : decode cX12_bestCancel 29 = .ok (.getfield 7, 3) := by decide +kernel
theorem dX12_bestCancel_32 : decode cX12_bestCancel 32 = .ok (.sipush 173, 3) := by decide +kernel
theorem dX12_bestCancel_35 : decode cX12_bestCancel 35 = .ok (.iaload, 1) := by decide +kernel
theorem dX12_bestCancel_36 : decode cX12_bestCancel 36 = .ok (.if_icmp .ge 90, 3) := by decide +kernel
theorem dX12_bestCancel_39 : decode cX12_bestCancel 39 = .ok (.aload_n 0, 1) := by decide +kernel
theorem dX12_bestCancel_40 : decode cX12_bestCancel 40 = .ok (.iload 5, 2) := by decide +kernel
theorem dX12_bestCancel_42 : decode cX12_bestCancel 42 = .ok (.iconst 0, 1) := by decide +kernel
theorem dX12_bestCancel_43 : decode cX12_bestCancel 43 = .ok (.invokevirtual 128, 3) := by decide +kernel
theorem dX12_bestCancel_46 : decode cX12_bestCancel 46 = .ok (.iload_n 1, 1) := by decide +kernel
theorem dX12_bestCancel_47 : decode cX12_bestCancel 47 = .ok (.if_icmp .ne 73, 3) := by decide +kernel
theorem dX12_bestCancel_50 : decode cX12_bestCancel 50 = .ok (.aload_n 0, 1) := by decide +kernel
theorem dX12_bestCancel_51 : decode cX12_bestCancel 51 = .ok (.iload 5, 2) := by decide +kernel
theorem dX12_bestCancel_53 : decode cX12_bestCancel 53 = .ok (.invokevirtual 203, 3) := by decide +kernel
theorem dX12_bestCancel_56 : decode cX12_bestCancel 56 = .ok (.ifCond .ne 6, 3) := by decide +kernel
theorem dX12_bestCancel_59 : decode cX12_bestCancel 59 = .ok (.goto 61, 3) := by decide +kernel
theorem dX12_bestCancel_62 : decode cX12_bestCancel 62 = .ok (.aload_n 0, 1) := by decide +kernel
theorem dX12_bestCancel_63 : decode cX12_bestCancel 63 = .ok (.bipush 8, 2) := by decide +kernel
theorem dX12_bestCancel_65 : decode cX12_bestCancel 65 = .ok (.invokevirtual 243, 3) := by decide +kernel
theorem dX12_bestCancel_68 : decode cX12_bestCancel 68 = .ok (.aload_n 0, 1) := by decide +kernel
theorem dX12_bestCancel_69 : decode cX12_bestCancel 69 = .ok (.iload 5, 2) := by decide +kernel
theorem dX12_bestCancel_71 : decode cX12_bestCancel 71 = .ok (.invokevirtual 200, 3) := by decide +kernel
theorem dX12_bestCancel_74 : decode cX12_bestCancel 74 = .ok (.aload_n 0, 1) := by decide +kernel
theorem dX12_bestCancel_75 : decode cX12_bestCancel 75 = .ok (.invokevirtual 219, 3) := by decide +kernel
theorem dX12_bestCancel_78 : decode cX12_bestCancel 78 = .ok (.istore 6, 2) := by decide +kernel
theorem dX12_bestCancel_80 : decode cX12_bestCancel 80 = .ok (.aload_n 0, 1) := by decide +kernel
theorem dX12_bestCancel_81 : decode cX12_bestCancel 81 = .ok (.iload_n 1, 1) := by decide +kernel
theorem dX12_bestCancel_82 : decode cX12_bestCancel 82 = .ok (.invokevirtual 252, 3) := by decide +kernel
theorem dX12_bestCancel_85 : decode cX12_bestCancel 85 = .ok (.istore 7, 2) := by decide +kernel
theorem dX12_bestCancel_87 : decode cX12_bestCancel 87 = .ok (.aload_n 0, 1) := by decide +kernel
theorem dX12_bestCancel_88 : decode cX12_bestCancel 88 = .ok (.bipush 8, 2) := by decide +kernel
theorem dX12_bestCancel_90 : decode cX12_bestCancel 90 = .ok (.invokevirtual 246, 3) := by decide +kernel
theorem dX12_bestCancel_93 : decode cX12_bestCancel 93 = .ok (.iload_n 3, 1) := by decide +kernel
theorem dX12_bestCancel_94 : decode cX12_bestCancel 94 = .ok (.iconst (-1), 1) := by decide +kernel
theorem dX12_bestCancel_95 : decode cX12_bestCancel 95 = .ok (.if_icmp .eq 10, 3) := by decide +kernel
theorem dX12_bestCancel_98 : decode cX12_bestCancel 98 = .ok (.iload 7, 2) := by decide +kernel
theorem dX12_bestCancel_100 : decode cX12_bestCancel 100 = .ok (.iload 4, 2) := by decide +kernel
theorem dX12_bestCancel_102 : decode cX12_bestCancel 102 = .ok (.if_icmp .ge 18, 3) := by decide +kernel
theorem dX12_bestCancel_105 : decode cX12_bestCancel 105 = .ok (.iload 6, 2) := by decide +kernel
theorem dX12_bestCancel_107 : decode cX12_bestCancel 107 = .ok (.ifCond .ge 6, 3) := by decide +kernel
theorem dX12_bestCancel_110 : decode cX12_bestCancel 110 = .ok (.goto 10, 3) := by decide +kernel
theorem dX12_bestCancel_113 : decode cX12_bestCancel 113 = .ok (.iload 5, 2) := by decide +kernel
theorem dX12_bestCancel_115 : decode cX12_bestCancel 115 = .ok (.istore_n 3, 1) := by decide +kernel
theorem dX12_bestCancel_116 : decode cX12_bestCancel 116 = .ok (.iload 7, 2) := by decide +kernel
theorem dX12_bestCancel_118 : decode cX12_bestCancel 118 = .ok (.istore 4, 2) := by decide +kernel
theorem dX12_bestCancel_120 : decode cX12_bestCancel 120 = .ok (.iinc 5 1, 3) := by decide +kernel
theorem dX12_bestCancel_123 : decode cX12_bestCancel 123 = .ok (.goto (-97), 3) := by decide +kernel
theorem dX12_bestCancel_126 : decode cX12_bestCancel 126 = .ok (.iload_n 3, 1) := by decide +kernel
theorem dX12_bestCancel_127 : decode cX12_bestCancel 127 = .ok (.iconst (-1), 1) := by decide +kernel
theorem dX12_bestCancel_128 : decode cX12_bestCancel 128 = .ok (.if_icmp .ne 8, 3) := by decide +kernel
theorem dX12_bestCancel_131 : decode cX12_bestCancel 131 = .ok (.bipush (-2), 2) := by decide +kernel
theorem dX12_bestCancel_133 : decode cX12_bestCancel 133 = .ok (.goto 13, 3) := by decide +kernel
theorem dX12_bestCancel_136 : decode cX12_bestCancel 136 = .ok (.iload_n 2, 1) := by decide +kernel
theorem dX12_bestCancel_137 : decode cX12_bestCancel 137 = .ok (.ifCond .ne 7, 3) := by decide +kernel
theorem dX12_bestCancel_140 : decode cX12_bestCancel 140 = .ok (.iload_n 3, 1) := by decide +kernel
theorem dX12_bestCancel_141 : decode cX12_bestCancel 141 = .ok (.goto 5, 3) := by decide +kernel
theorem dX12_bestCancel_144 : decode cX12_bestCancel 144 = .ok (.iload 4, 2) := by decide +kernel
theorem dX12_bestCancel_146 : decode cX12_bestCancel 146 = .ok (.ireturn, 1) := by decide +kernel
theorem dX12_helps_0 : decode cX12_helps 0 = .ok (.aload_n 0, 1) := by decide +kernel
theorem dX12_helps_1 : decode cX12_helps 1 = .ok (.iload_n 1, 1) := by decide +kernel
theorem dX12_helps_2 : decode cX12_helps 2 = .ok (.invokevirtual 206, 3) := by decide +kernel
theorem dX12_helps_5 : decode cX12_helps 5 = .ok (.ifCond .eq 10, 3) := by decide +kernel
theorem dX12_helps_8 : decode cX12_helps 8 = .ok (.iload_n 2, 1) := by decide +kernel
theorem dX12_helps_9 : decode cX12_helps 9 = .ok (.invokestatic 104, 3) := by decide +kernel
theorem dX12_helps_12 : decode cX12_helps 12 = .ok (.ifCond .ne 6, 3) := by decide +kernel
theorem dX12_helps_15 : decode cX12_helps 15 = .ok (.ldc 209, 2) := by decide +kernel
theorem dX12_helps_17 : decode cX12_helps 17 = .ok (.ireturn, 1) := by decide +kernel
theorem dX12_helps_18 : decode cX12_helps 18 = .ok (.aload_n 0, 1) := by decide +kernel
theorem dX12_helps_19 : decode cX12_helps 19 = .ok (.bipush 8, 2) := by decide +kernel
theorem dX12_helps_21 : decode cX12_helps 21 = .ok (.invokevirtual 243, 3) := by decide +kernel
theorem dX12_helps_24 : decode cX12_helps 24 = .ok (.aload_n 0, 1) := by decide +kernel
theorem dX12_helps_25 : decode cX12_helps 25 = .ok (.iload_n 1, 1) := by decide +kernel
theorem dX12_helps_26 : decode cX12_helps 26 = .ok (.invokevirtual 200, 3) := by decide +kernel
theorem dX12_helps_29 : decode cX12_helps 29 = .ok (.aload_n 0, 1) := by decide +kernel
theorem dX12_helps_30 : decode cX12_helps 30 = .ok (.iload_n 2, 1) := by decide +kernel
theorem dX12_helps_31 : decode cX12_helps 31 = .ok (.invokevirtual 249, 3) := by decide +kernel
theorem dX12_helps_34 : decode cX12_helps 34 = .ok (.istore_n 3, 1) := by decide +kernel
theorem dX12_helps_35 : decode cX12_helps 35 = .ok (.aload_n 0, 1) := by decide +kernel
theorem dX12_helps_36 : decode cX12_helps 36 = .ok (.invokevirtual 219, 3) := by decide +kernel
theorem dX12_helps_39 : decode cX12_helps 39 = .ok (.istore 4, 2) := by decide +kernel
theorem dX12_helps_41 : decode cX12_helps 41 = .ok (.iload_n 3, 1) := by decide +kernel
theorem dX12_helps_42 : decode cX12_helps 42 = .ok (.aload_n 0, 1) := by decide +kernel
theorem dX12_helps_43 : decode cX12_helps 43 = .ok (.iload_n 2, 1) := by decide +kernel
theorem dX12_helps_44 : decode cX12_helps 44 = .ok (.invokevirtual 249, 3) := by decide +kernel
theorem dX12_helps_47 : decode cX12_helps 47 = .ok (.isub, 1) := by decide +kernel
theorem dX12_helps_48 : decode cX12_helps 48 = .ok (.istore 5, 2) := by decide +kernel
theorem dX12_helps_50 : decode cX12_helps 50 = .ok (.aload_n 0, 1) := by decide +kernel
theorem dX12_helps_51 : decode cX12_helps 51 = .ok (.bipush 8, 2) := by decide +kernel
theorem dX12_helps_53 : decode cX12_helps 53 = .ok (.invokevirtual 246, 3) := by decide +kernel
theorem dX12_helps_56 : decode cX12_helps 56 = .ok (.iload 4, 2) := by decide +kernel
theorem dX12_helps_58 : decode cX12_helps 58 = .ok (.ifCond .ge 8, 3) := by decide +kernel
theorem dX12_helps_61 : decode cX12_helps 61 = .ok (.ldc 209, 2) := by decide +kernel
theorem dX12_helps_63 : decode cX12_helps 63 = .ok (.goto 5, 3) := by decide +kernel
theorem dX12_helps_66 : decode cX12_helps 66 = .ok (.iload 5, 2) := by decide +kernel
theorem dX12_helps_68 : decode cX12_helps 68 = .ok (.ireturn, 1) := by decide +kernel
theorem dX12_waitsMore_0 : decode cX12_waitsMore 0 = .ok (.aload_n 0, 1) := by decide +kernel
theorem dX12_waitsMore_1 : decode cX12_waitsMore 1 = .ok (.iload_n 1, 1) := by decide +kernel
theorem dX12_waitsMore_2 : decode cX12_waitsMore 2 = .ok (.invokevirtual 249, 3) := by decide +kernel
theorem dX12_waitsMore_5 : decode cX12_waitsMore 5 = .ok (.aload_n 0, 1) := by decide +kernel
theorem dX12_waitsMore_6 : decode cX12_waitsMore 6 = .ok (.iload_n 2, 1) := by decide +kernel
theorem dX12_waitsMore_7 : decode cX12_waitsMore 7 = .ok (.invokevirtual 277, 3) := by decide +kernel
theorem dX12_waitsMore_10 : decode cX12_waitsMore 10 = .ok (.imul, 1) := by decide +kernel
theorem dX12_waitsMore_11 : decode cX12_waitsMore 11 = .ok (.aload_n 0, 1) := by decide +kernel
theorem dX12_waitsMore_12 : decode cX12_waitsMore 12 = .ok (.iload_n 2, 1) := by decide +kernel
theorem dX12_waitsMore_13 : decode cX12_waitsMore 13 = .ok (.invokevirtual 249, 3) := by decide +kernel
theorem dX12_waitsMore_16 : decode cX12_waitsMore 16 = .ok (.aload_n 0, 1) := by decide +kernel
theorem dX12_waitsMore_17 : decode cX12_waitsMore 17 = .ok (.iload_n 1, 1) := by decide +kernel
theorem dX12_waitsMore_18 : decode cX12_waitsMore 18 = .ok (.invokevirtual 277, 3) := by decide +kernel
theorem dX12_waitsMore_21 : decode cX12_waitsMore 21 = .ok (.imul, 1) := by decide +kernel
theorem dX12_waitsMore_22 : decode cX12_waitsMore 22 = .ok (.if_icmp .le 7, 3) := by decide +kernel
theorem dX12_waitsMore_25 : decode cX12_waitsMore 25 = .ok (.iconst 1, 1) := by decide +kernel
theorem dX12_waitsMore_26 : decode cX12_waitsMore 26 = .ok (.goto 4, 3) := by decide +kernel
theorem dX12_waitsMore_29 : decode cX12_waitsMore 29 = .ok (.iconst 0, 1) := by decide +kernel
theorem dX12_waitsMore_30 : decode cX12_waitsMore 30 = .ok (.ireturn, 1) := by decide +kernel
theorem dX12_rank_0 : decode cX12_rank 0 = .ok (.iload_n 1, 1) := by decide +kernel
theorem dX12_rank_1 : decode cX12_rank 1 = .ok (.ifCond .ge 5, 3) := by decide +kernel
theorem dX12_rank_4 : decode cX12_rank 4 = .ok (.iconst (-1), 1) := by decide +kernel
theorem dX12_rank_5 : decode cX12_rank 5 = .ok (.ireturn, 1) := by decide +kernel
theorem dX12_rank_6 : decode cX12_rank 6 = .ok (.iconst 0, 1) := by decide +kernel
theorem dX12_rank_7 : decode cX12_rank 7 = .ok (.istore_n 2, 1) := by decide +kernel
theorem dX12_rank_8 : decode cX12_rank 8 = .ok (.iload_n 2, 1) := by decide +kernel
theorem dX12_rank_9 : decode cX12_rank 9 = .ok (.iconst 5, 1) := by decide +kernel
theorem dX12_rank_10 : decode cX12_rank 10 = .ok (.if_icmp .ge 93, 3) := by decide +kernel
theorem dX12_rank_13 : decode cX12_rank 13 = .ok (.aload_n 0, 1) := by decide +kernel
theorem dX12_rank_14 : decode cX12_rank 14 = .ok (.iload_n 2, 1) := by decide +kernel
theorem dX12_rank_15 : decode cX12_rank 15 = .ok (.invokevirtual 277, 3) := by decide +kernel
theorem dX12_rank_18 : decode cX12_rank 18 = .ok (.ifCond .ne 6, 3) := by decide +kernel
theorem dX12_rank_21 : decode cX12_rank 21 = .ok (.goto 76, 3) := by decide +kernel
theorem dX12_rank_24 : decode cX12_rank 24 = .ok (.iconst 0, 1) := by decide +kernel
theorem dX12_rank_25 : decode cX12_rank 25 = .ok (.istore_n 3, 1) := by decide +kernel
theorem dX12_rank_26 : decode cX12_rank 26 = .ok (.iconst 0, 1) := by decide +kernel
theorem dX12_rank_27 : decode cX12_rank 27 = .ok (.istore 4, 2) := by decide +kernel
theorem dX12_rank_29 : decode cX12_rank 29 = .ok (.iload 4, 2) := by decide +kernel
theorem dX12_rank_31 : decode cX12_rank 31 = .ok (.iconst 5, 1) := by decide +kernel
theorem dX12_rank_32 : decode cX12_rank 32 = .ok (.if_icmp .ge 58, 3) := by decide +kernel
theorem dX12_rank_35 : decode cX12_rank 35 = .ok (.iload_n 3, 1) := by decide +kernel
theorem dX12_rank_36 : decode cX12_rank 36 = .ok (.iload 4, 2) := by decide +kernel
theorem dX12_rank_38 : decode cX12_rank 38 = .ok (.iload_n 2, 1) := by decide +kernel
theorem dX12_rank_39 : decode cX12_rank 39 = .ok (.if_icmp .eq 42, 3) := by decide +kernel
theorem dX12_rank_42 : decode cX12_rank 42 = .ok (.aload_n 0, 1) := by decide +kernel
theorem dX12_rank_43 : decode cX12_rank 43 = .ok (.iload 4, 2) := by decide +kernel
theorem dX12_rank_45 : decode cX12_rank 45 = .ok (.invokevirtual 277, 3) := by decide +kernel
theorem dX12_rank_48 : decode cX12_rank 48 = .ok (.ifCond .le 33, 3) := by decide +kernel
theorem dX12_rank_51 : decode cX12_rank 51 = .ok (.aload_n 0, 1) := by decide +kernel
theorem dX12_rank_52 : decode cX12_rank 52 = .ok (.iload 4, 2) := by decide +kernel
theorem dX12_rank_54 : decode cX12_rank 54 = .ok (.iload_n 2, 1) := by decide +kernel
theorem dX12_rank_55 : decode cX12_rank 55 = .ok (.invokevirtual 280, 3) := by decide +kernel
theorem dX12_rank_58 : decode cX12_rank 58 = .ok (.ifCond .ne 19, 3) := by decide +kernel
theorem dX12_rank_61 : decode cX12_rank 61 = .ok (.iload 4, 2) := by decide +kernel
theorem dX12_rank_63 : decode cX12_rank 63 = .ok (.iload_n 2, 1) := by decide +kernel
theorem dX12_rank_64 : decode cX12_rank 64 = .ok (.if_icmp .ge 17, 3) := by decide +kernel
theorem dX12_rank_67 : decode cX12_rank 67 = .ok (.aload_n 0, 1) := by decide +kernel
theorem dX12_rank_68 : decode cX12_rank 68 = .ok (.iload_n 2, 1) := by decide +kernel
theorem dX12_rank_69 : decode cX12_rank 69 = .ok (.iload 4, 2) := by decide +kernel
theorem dX12_rank_71 : decode cX12_rank 71 = .ok (.invokevirtual 280, 3) := by decide +kernel
theorem dX12_rank_74 : decode cX12_rank 74 = .ok (.ifCond .ne 7, 3) := by decide +kernel
theorem dX12_rank_77 : decode cX12_rank 77 = .ok (.iconst 1, 1) := by decide +kernel
theorem dX12_rank_78 : decode cX12_rank 78 = .ok (.goto 4, 3) := by decide +kernel
theorem dX12_rank_81 : decode cX12_rank 81 = .ok (.iconst 0, 1) := by decide +kernel
theorem dX12_rank_82 : decode cX12_rank 82 = .ok (.iadd, 1) := by decide +kernel
theorem dX12_rank_83 : decode cX12_rank 83 = .ok (.istore_n 3, 1) := by decide +kernel
theorem dX12_rank_84 : decode cX12_rank 84 = .ok (.iinc 4 1, 3) := by decide +kernel
theorem dX12_rank_87 : decode cX12_rank 87 = .ok (.goto (-58), 3) := by decide +kernel
theorem dX12_rank_90 : decode cX12_rank 90 = .ok (.iload_n 3, 1) := by decide +kernel
theorem dX12_rank_91 : decode cX12_rank 91 = .ok (.iload_n 1, 1) := by decide +kernel
theorem dX12_rank_92 : decode cX12_rank 92 = .ok (.if_icmp .ne 5, 3) := by decide +kernel
theorem dX12_rank_95 : decode cX12_rank 95 = .ok (.iload_n 2, 1) := by decide +kernel
theorem dX12_rank_96 : decode cX12_rank 96 = .ok (.ireturn, 1) := by decide +kernel
theorem dX12_rank_97 : decode cX12_rank 97 = .ok (.iinc 2 1, 3) := by decide +kernel
theorem dX12_rank_100 : decode cX12_rank 100 = .ok (.goto (-92), 3) := by decide +kernel
theorem dX12_rank_103 : decode cX12_rank 103 = .ok (.bipush (-2), 2) := by decide +kernel
theorem dX12_rank_105 : decode cX12_rank 105 = .ok (.ireturn, 1) := by decide +kernel
theorem dX12_unfairNow_0 : decode cX12_unfairNow 0 = .ok (.iconst (-1), 1) := by decide +kernel
theorem dX12_unfairNow_1 : decode cX12_unfairNow 1 = .ok (.istore_n 1, 1) := by decide +kernel
theorem dX12_unfairNow_2 : decode cX12_unfairNow 2 = .ok (.iconst (-1), 1) := by decide +kernel
theorem dX12_unfairNow_3 : decode cX12_unfairNow 3 = .ok (.istore_n 2, 1) := by decide +kernel
theorem dX12_unfairNow_4 : decode cX12_unfairNow 4 = .ok (.iconst 0, 1) := by decide +kernel
theorem dX12_unfairNow_5 : decode cX12_unfairNow 5 = .ok (.istore_n 3, 1) := by decide +kernel
theorem dX12_unfairNow_6 : decode cX12_unfairNow 6 = .ok (.iload_n 3, 1) := by decide +kernel
theorem dX12_unfairNow_7 : decode cX12_unfairNow 7 = .ok (.iconst 5, 1) := by decide +kernel
theorem dX12_unfairNow_8 : decode cX12_unfairNow 8 = .ok (.if_icmp .ge 62, 3) := by decide +kernel
theorem dX12_unfairNow_11 : decode cX12_unfairNow 11 = .ok (.aload_n 0, 1) := by decide +kernel
theorem dX12_unfairNow_12 : decode cX12_unfairNow 12 = .ok (.iload_n 3, 1) := by decide +kernel
theorem dX12_unfairNow_13 : decode cX12_unfairNow 13 = .ok (.invokevirtual 277, 3) := by decide +kernel
theorem dX12_unfairNow_16 : decode cX12_unfairNow 16 = .ok (.istore 4, 2) := by decide +kernel
theorem dX12_unfairNow_18 : decode cX12_unfairNow 18 = .ok (.iload 4, 2) := by decide +kernel
theorem dX12_unfairNow_20 : decode cX12_unfairNow 20 = .ok (.ifCond .ne 6, 3) := by decide +kernel
theorem dX12_unfairNow_23 : decode cX12_unfairNow 23 = .ok (.goto 41, 3) := by decide +kernel
theorem dX12_unfairNow_26 : decode cX12_unfairNow 26 = .ok (.aload_n 0, 1) := by decide +kernel
theorem dX12_unfairNow_27 : decode cX12_unfairNow 27 = .ok (.iload_n 3, 1) := by decide +kernel
theorem dX12_unfairNow_28 : decode cX12_unfairNow 28 = .ok (.invokevirtual 249, 3) := by decide +kernel
theorem dX12_unfairNow_31 : decode cX12_unfairNow 31 = .ok (.bipush 100, 2) := by decide +kernel
theorem dX12_unfairNow_33 : decode cX12_unfairNow 33 = .ok (.imul, 1) := by decide +kernel
theorem dX12_unfairNow_34 : decode cX12_unfairNow 34 = .ok (.iload 4, 2) := by decide +kernel
theorem dX12_unfairNow_36 : decode cX12_unfairNow 36 = .ok (.idiv, 1) := by decide +kernel
theorem dX12_unfairNow_37 : decode cX12_unfairNow 37 = .ok (.istore 5, 2) := by decide +kernel
theorem dX12_unfairNow_39 : decode cX12_unfairNow 39 = .ok (.iload_n 1, 1) := by decide +kernel
theorem dX12_unfairNow_40 : decode cX12_unfairNow 40 = .ok (.iload 5, 2) := by decide +kernel
theorem dX12_unfairNow_42 : decode cX12_unfairNow 42 = .ok (.invokestatic 141, 3) := by decide +kernel
theorem dX12_unfairNow_45 : decode cX12_unfairNow 45 = .ok (.istore_n 1, 1) := by decide +kernel
theorem dX12_unfairNow_46 : decode cX12_unfairNow 46 = .ok (.iload_n 2, 1) := by decide +kernel
theorem dX12_unfairNow_47 : decode cX12_unfairNow 47 = .ok (.iconst (-1), 1) := by decide +kernel
theorem dX12_unfairNow_48 : decode cX12_unfairNow 48 = .ok (.if_icmp .eq 9, 3) := by decide +kernel
theorem dX12_unfairNow_51 : decode cX12_unfairNow 51 = .ok (.iload 5, 2) := by decide +kernel
theorem dX12_unfairNow_53 : decode cX12_unfairNow 53 = .ok (.iload_n 2, 1) := by decide +kernel
theorem dX12_unfairNow_54 : decode cX12_unfairNow 54 = .ok (.if_icmp .ge 8, 3) := by decide +kernel
theorem dX12_unfairNow_57 : decode cX12_unfairNow 57 = .ok (.iload 5, 2) := by decide +kernel
theorem dX12_unfairNow_59 : decode cX12_unfairNow 59 = .ok (.goto 4, 3) := by decide +kernel
theorem dX12_unfairNow_62 : decode cX12_unfairNow 62 = .ok (.iload_n 2, 1) := by decide +kernel
theorem dX12_unfairNow_63 : decode cX12_unfairNow 63 = .ok (.istore_n 2, 1) := by decide +kernel
theorem dX12_unfairNow_64 : decode cX12_unfairNow 64 = .ok (.iinc 3 1, 3) := by decide +kernel
theorem dX12_unfairNow_67 : decode cX12_unfairNow 67 = .ok (.goto (-61), 3) := by decide +kernel
theorem dX12_unfairNow_70 : decode cX12_unfairNow 70 = .ok (.iload_n 1, 1) := by decide +kernel
theorem dX12_unfairNow_71 : decode cX12_unfairNow 71 = .ok (.iconst (-1), 1) := by decide +kernel
theorem dX12_unfairNow_72 : decode cX12_unfairNow 72 = .ok (.if_icmp .ne 8, 3) := by decide +kernel
theorem dX12_unfairNow_75 : decode cX12_unfairNow 75 = .ok (.bipush (-2), 2) := by decide +kernel
theorem dX12_unfairNow_77 : decode cX12_unfairNow 77 = .ok (.goto 6, 3) := by decide +kernel
theorem dX12_unfairNow_80 : decode cX12_unfairNow 80 = .ok (.iload_n 1, 1) := by decide +kernel
theorem dX12_unfairNow_81 : decode cX12_unfairNow 81 = .ok (.iload_n 2, 1) := by decide +kernel
theorem dX12_unfairNow_82 : decode cX12_unfairNow 82 = .ok (.isub, 1) := by decide +kernel
theorem dX12_unfairNow_83 : decode cX12_unfairNow 83 = .ok (.ireturn, 1) := by decide +kernel
theorem dX12_unfair_0 : decode cX12_unfair 0 = .ok (.aload_n 0, 1) := by decide +kernel
theorem dX12_unfair_1 : decode cX12_unfair 1 = .ok (.invokevirtual 283, 3) := by decide +kernel
theorem dX12_unfair_4 : decode cX12_unfair 4 = .ok (.ireturn, 1) := by decide +kernel
theorem dX12_link_0 : decode cX12_link 0 = .ok (.aload_n 0, 1) := by decide +kernel
theorem dX12_link_1 : decode cX12_link 1 = .ok (.iload_n 1, 1) := by decide +kernel
theorem dX12_link_2 : decode cX12_link 2 = .ok (.invokevirtual 153, 3) := by decide +kernel
theorem dX12_link_5 : decode cX12_link 5 = .ok (.ifCond .eq 27, 3) := by decide +kernel
theorem dX12_link_8 : decode cX12_link 8 = .ok (.aload_n 0, 1) := by decide +kernel
theorem dX12_link_9 : decode cX12_link 9 = .ok (.iload_n 2, 1) := by decide +kernel
theorem dX12_link_10 : decode cX12_link 10 = .ok (.invokevirtual 153, 3) := by decide +kernel
theorem dX12_link_13 : decode cX12_link 13 = .ok (.ifCond .eq 19, 3) := by decide +kernel
theorem dX12_link_16 : decode cX12_link 16 = .ok (.iload_n 1, 1) := by decide +kernel
theorem dX12_link_17 : decode cX12_link 17 = .ok (.iload_n 2, 1) := by decide +kernel
theorem dX12_link_18 : decode cX12_link 18 = .ok (.if_icmp .eq 14, 3) := by decide +kernel
theorem dX12_link_21 : decode cX12_link 21 = .ok (.iload_n 3, 1) := by decide +kernel
theorem dX12_link_22 : decode cX12_link 22 = .ok (.iconst 0, 1) := by decide +kernel
theorem dX12_link_23 : decode cX12_link 23 = .ok (.sipush 300, 3) := by decide +kernel
theorem dX12_link_26 : decode cX12_link 26 = .ok (.invokestatic 45, 3) := by decide +kernel
theorem dX12_link_29 : decode cX12_link 29 = .ok (.ifCond .ne 5, 3) := by decide +kernel
theorem dX12_link_32 : decode cX12_link 32 = .ok (.iconst (-1), 1) := by decide +kernel
theorem dX12_link_33 : decode cX12_link 33 = .ok (.ireturn, 1) := by decide +kernel
theorem dX12_link_34 : decode cX12_link 34 = .ok (.aload_n 0, 1) := by decide +kernel
theorem dX12_link_35 : decode cX12_link 35 = .ok (.getfield 7, 3) := by decide +kernel
theorem dX12_link_38 : decode cX12_link 38 = .ok (.sipush 175, 3) := by decide +kernel
theorem dX12_link_41 : decode cX12_link 41 = .ok (.iaload, 1) := by decide +kernel
theorem dX12_link_42 : decode cX12_link 42 = .ok (.bipush 12, 2) := by decide +kernel
theorem dX12_link_44 : decode cX12_link 44 = .ok (.if_icmp .ne 6, 3) := by decide +kernel
theorem dX12_link_47 : decode cX12_link 47 = .ok (.bipush (-2), 2) := by decide +kernel
theorem dX12_link_49 : decode cX12_link 49 = .ok (.ireturn, 1) := by decide +kernel
theorem dX12_link_50 : decode cX12_link 50 = .ok (.sipush 216, 3) := by decide +kernel
theorem dX12_link_53 : decode cX12_link 53 = .ok (.iconst 3, 1) := by decide +kernel
theorem dX12_link_54 : decode cX12_link 54 = .ok (.aload_n 0, 1) := by decide +kernel
theorem dX12_link_55 : decode cX12_link 55 = .ok (.getfield 7, 3) := by decide +kernel
theorem dX12_link_58 : decode cX12_link 58 = .ok (.sipush 175, 3) := by decide +kernel
theorem dX12_link_61 : decode cX12_link 61 = .ok (.iaload, 1) := by decide +kernel
theorem dX12_link_62 : decode cX12_link 62 = .ok (.imul, 1) := by decide +kernel
theorem dX12_link_63 : decode cX12_link 63 = .ok (.iadd, 1) := by decide +kernel
theorem dX12_link_64 : decode cX12_link 64 = .ok (.istore 4, 2) := by decide +kernel
theorem dX12_link_66 : decode cX12_link 66 = .ok (.aload_n 0, 1) := by decide +kernel
theorem dX12_link_67 : decode cX12_link 67 = .ok (.getfield 7, 3) := by decide +kernel
theorem dX12_link_70 : decode cX12_link 70 = .ok (.iload 4, 2) := by decide +kernel
theorem dX12_link_72 : decode cX12_link 72 = .ok (.iload_n 1, 1) := by decide +kernel
theorem dX12_link_73 : decode cX12_link 73 = .ok (.iastore, 1) := by decide +kernel
theorem dX12_link_74 : decode cX12_link 74 = .ok (.aload_n 0, 1) := by decide +kernel
theorem dX12_link_75 : decode cX12_link 75 = .ok (.getfield 7, 3) := by decide +kernel
theorem dX12_link_78 : decode cX12_link 78 = .ok (.iload 4, 2) := by decide +kernel
theorem dX12_link_80 : decode cX12_link 80 = .ok (.iconst 1, 1) := by decide +kernel
theorem dX12_link_81 : decode cX12_link 81 = .ok (.iadd, 1) := by decide +kernel
theorem dX12_link_82 : decode cX12_link 82 = .ok (.iload_n 2, 1) := by decide +kernel
theorem dX12_link_83 : decode cX12_link 83 = .ok (.iastore, 1) := by decide +kernel
theorem dX12_link_84 : decode cX12_link 84 = .ok (.aload_n 0, 1) := by decide +kernel
theorem dX12_link_85 : decode cX12_link 85 = .ok (.getfield 7, 3) := by decide +kernel
theorem dX12_link_88 : decode cX12_link 88 = .ok (.iload 4, 2) := by decide +kernel
theorem dX12_link_90 : decode cX12_link 90 = .ok (.iconst 2, 1) := by decide +kernel
theorem dX12_link_91 : decode cX12_link 91 = .ok (.iadd, 1) := by decide +kernel
theorem dX12_link_92 : decode cX12_link 92 = .ok (.iload_n 3, 1) := by decide +kernel
theorem dX12_link_93 : decode cX12_link 93 = .ok (.iastore, 1) := by decide +kernel
theorem dX12_link_94 : decode cX12_link 94 = .ok (.aload_n 0, 1) := by decide +kernel
theorem dX12_link_95 : decode cX12_link 95 = .ok (.getfield 7, 3) := by decide +kernel
theorem dX12_link_98 : decode cX12_link 98 = .ok (.sipush 175, 3) := by decide +kernel
theorem dX12_link_101 : decode cX12_link 101 = .ok (.aload_n 0, 1) := by decide +kernel
theorem dX12_link_102 : decode cX12_link 102 = .ok (.getfield 7, 3) := by decide +kernel
theorem dX12_link_105 : decode cX12_link 105 = .ok (.sipush 175, 3) := by decide +kernel
theorem dX12_link_108 : decode cX12_link 108 = .ok (.iaload, 1) := by decide +kernel
theorem dX12_link_109 : decode cX12_link 109 = .ok (.iconst 1, 1) := by decide +kernel
theorem dX12_link_110 : decode cX12_link 110 = .ok (.iadd, 1) := by decide +kernel
theorem dX12_link_111 : decode cX12_link 111 = .ok (.iastore, 1) := by decide +kernel
theorem dX12_link_112 : decode cX12_link 112 = .ok (.aload_n 0, 1) := by decide +kernel
theorem dX12_link_113 : decode cX12_link 113 = .ok (.getfield 7, 3) := by decide +kernel
theorem dX12_link_116 : decode cX12_link 116 = .ok (.sipush 175, 3) := by decide +kernel
theorem dX12_link_119 : decode cX12_link 119 = .ok (.iaload, 1) := by decide +kernel
theorem dX12_link_120 : decode cX12_link 120 = .ok (.iconst 1, 1) := by decide +kernel
theorem dX12_link_121 : decode cX12_link 121 = .ok (.isub, 1) := by decide +kernel
theorem dX12_link_122 : decode cX12_link 122 = .ok (.ireturn, 1) := by decide +kernel
theorem dX12_lacks_0 : decode cX12_lacks 0 = .ok (.sipush 216, 3) := by decide +kernel
theorem dX12_lacks_3 : decode cX12_lacks 3 = .ok (.iconst 3, 1) := by decide +kernel
theorem dX12_lacks_4 : decode cX12_lacks 4 = .ok (.iload_n 1, 1) := by decide +kernel
theorem dX12_lacks_5 : decode cX12_lacks 5 = .ok (.imul, 1) := by decide +kernel
theorem dX12_lacks_6 : decode cX12_lacks 6 = .ok (.iadd, 1) := by decide +kernel
theorem dX12_lacks_7 : decode cX12_lacks 7 = .ok (.istore_n 2, 1) := by decide +kernel
theorem dX12_lacks_8 : decode cX12_lacks 8 = .ok (.aload_n 0, 1) := by decide +kernel
theorem dX12_lacks_9 : decode cX12_lacks 9 = .ok (.aload_n 0, 1) := by decide +kernel
theorem dX12_lacks_10 : decode cX12_lacks 10 = .ok (.getfield 7, 3) := by decide +kernel
theorem dX12_lacks_13 : decode cX12_lacks 13 = .ok (.iload_n 2, 1) := by decide +kernel
theorem dX12_lacks_14 : decode cX12_lacks 14 = .ok (.iaload, 1) := by decide +kernel
theorem dX12_lacks_15 : decode cX12_lacks 15 = .ok (.invokevirtual 144, 3) := by decide +kernel
theorem dX12_lacks_18 : decode cX12_lacks 18 = .ok (.ifCond .eq 18, 3) := by decide +kernel
theorem dX12_lacks_21 : decode cX12_lacks 21 = .ok (.aload_n 0, 1) := by decide +kernel
theorem dX12_lacks_22 : decode cX12_lacks 22 = .ok (.aload_n 0, 1) := by decide +kernel
theorem dX12_lacks_23 : decode cX12_lacks 23 = .ok (.getfield 7, 3) := by decide +kernel
theorem dX12_lacks_26 : decode cX12_lacks 26 = .ok (.iload_n 2, 1) := by decide +kernel
theorem dX12_lacks_27 : decode cX12_lacks 27 = .ok (.iconst 1, 1) := by decide +kernel
theorem dX12_lacks_28 : decode cX12_lacks 28 = .ok (.iadd, 1) := by decide +kernel
theorem dX12_lacks_29 : decode cX12_lacks 29 = .ok (.iaload, 1) := by decide +kernel
theorem dX12_lacks_30 : decode cX12_lacks 30 = .ok (.invokevirtual 144, 3) := by decide +kernel
theorem dX12_lacks_33 : decode cX12_lacks 33 = .ok (.ifCond .ne 6, 3) := by decide +kernel
theorem dX12_lacks_36 : decode cX12_lacks 36 = .ok (.bipush (-2), 2) := by decide +kernel
theorem dX12_lacks_38 : decode cX12_lacks 38 = .ok (.ireturn, 1) := by decide +kernel
theorem dX12_lacks_39 : decode cX12_lacks 39 = .ok (.iconst 0, 1) := by decide +kernel
theorem dX12_lacks_40 : decode cX12_lacks 40 = .ok (.aload_n 0, 1) := by decide +kernel
theorem dX12_lacks_41 : decode cX12_lacks 41 = .ok (.aload_n 0, 1) := by decide +kernel
theorem dX12_lacks_42 : decode cX12_lacks 42 = .ok (.getfield 7, 3) := by decide +kernel
theorem dX12_lacks_45 : decode cX12_lacks 45 = .ok (.iload_n 2, 1) := by decide +kernel
theorem dX12_lacks_46 : decode cX12_lacks 46 = .ok (.iaload, 1) := by decide +kernel
theorem dX12_lacks_47 : decode cX12_lacks 47 = .ok (.iconst 4, 1) := by decide +kernel
theorem dX12_lacks_48 : decode cX12_lacks 48 = .ok (.invokevirtual 128, 3) := by decide +kernel
theorem dX12_lacks_51 : decode cX12_lacks 51 = .ok (.aload_n 0, 1) := by decide +kernel
theorem dX12_lacks_52 : decode cX12_lacks 52 = .ok (.getfield 7, 3) := by decide +kernel
theorem dX12_lacks_55 : decode cX12_lacks 55 = .ok (.iload_n 2, 1) := by decide +kernel
theorem dX12_lacks_56 : decode cX12_lacks 56 = .ok (.iconst 2, 1) := by decide +kernel
theorem dX12_lacks_57 : decode cX12_lacks 57 = .ok (.iadd, 1) := by decide +kernel
theorem dX12_lacks_58 : decode cX12_lacks 58 = .ok (.iaload, 1) := by decide +kernel
theorem dX12_lacks_59 : decode cX12_lacks 59 = .ok (.iadd, 1) := by decide +kernel
theorem dX12_lacks_60 : decode cX12_lacks 60 = .ok (.aload_n 0, 1) := by decide +kernel
theorem dX12_lacks_61 : decode cX12_lacks 61 = .ok (.aload_n 0, 1) := by decide +kernel
theorem dX12_lacks_62 : decode cX12_lacks 62 = .ok (.getfield 7, 3) := by decide +kernel
theorem dX12_lacks_65 : decode cX12_lacks 65 = .ok (.iload_n 2, 1) := by decide +kernel
theorem dX12_lacks_66 : decode cX12_lacks 66 = .ok (.iconst 1, 1) := by decide +kernel
theorem dX12_lacks_67 : decode cX12_lacks 67 = .ok (.iadd, 1) := by decide +kernel
theorem dX12_lacks_68 : decode cX12_lacks 68 = .ok (.iaload, 1) := by decide +kernel
theorem dX12_lacks_69 : decode cX12_lacks 69 = .ok (.invokevirtual 147, 3) := by decide +kernel
theorem dX12_lacks_72 : decode cX12_lacks 72 = .ok (.isub, 1) := by decide +kernel
theorem dX12_lacks_73 : decode cX12_lacks 73 = .ok (.aload_n 0, 1) := by decide +kernel
theorem dX12_lacks_74 : decode cX12_lacks 74 = .ok (.aload_n 0, 1) := by decide +kernel
theorem dX12_lacks_75 : decode cX12_lacks 75 = .ok (.getfield 7, 3) := by decide +kernel
theorem dX12_lacks_78 : decode cX12_lacks 78 = .ok (.iload_n 2, 1) := by decide +kernel
theorem dX12_lacks_79 : decode cX12_lacks 79 = .ok (.iconst 1, 1) := by decide +kernel
theorem dX12_lacks_80 : decode cX12_lacks 80 = .ok (.iadd, 1) := by decide +kernel
theorem dX12_lacks_81 : decode cX12_lacks 81 = .ok (.iaload, 1) := by decide +kernel
theorem dX12_lacks_82 : decode cX12_lacks 82 = .ok (.iconst 5, 1) := by decide +kernel
theorem dX12_lacks_83 : decode cX12_lacks 83 = .ok (.invokevirtual 128, 3) := by decide +kernel
theorem dX12_lacks_86 : decode cX12_lacks 86 = .ok (.isub, 1) := by decide +kernel
theorem dX12_lacks_87 : decode cX12_lacks 87 = .ok (.invokestatic 141, 3) := by decide +kernel
theorem dX12_lacks_90 : decode cX12_lacks 90 = .ok (.ireturn, 1) := by decide +kernel
theorem dX12_broken_0 : decode cX12_broken 0 = .ok (.iconst 0, 1) := by decide +kernel
theorem dX12_broken_1 : decode cX12_broken 1 = .ok (.istore_n 1, 1) := by decide +kernel
theorem dX12_broken_2 : decode cX12_broken 2 = .ok (.iconst 0, 1) := by decide +kernel
theorem dX12_broken_3 : decode cX12_broken 3 = .ok (.istore_n 2, 1) := by decide +kernel
theorem dX12_broken_4 : decode cX12_broken 4 = .ok (.iload_n 2, 1) := by decide +kernel
theorem dX12_broken_5 : decode cX12_broken 5 = .ok (.aload_n 0, 1) := by decide +kernel
theorem dX12_broken_6 : decode cX12_broken 6 = .ok (.getfield 7, 3) := by decide +kernel
theorem dX12_broken_9 : decode cX12_broken 9 = .ok (.sipush 175, 3) := by decide +kernel
theorem dX12_broken_12 : decode cX12_broken 12 = .ok (.iaload, 1) := by decide +kernel
theorem dX12_broken_13 : decode cX12_broken 13 = .ok (.if_icmp .ge 25, 3) := by decide +kernel
theorem dX12_broken_16 : decode cX12_broken 16 = .ok (.iload_n 1, 1) := by decide +kernel
theorem dX12_broken_17 : decode cX12_broken 17 = .ok (.aload_n 0, 1) := by decide +kernel
theorem dX12_broken_18 : decode cX12_broken 18 = .ok (.iload_n 2, 1) := by decide +kernel
theorem dX12_broken_19 : decode cX12_broken 19 = .ok (.invokevirtual 286, 3) := by decide +kernel
theorem dX12_broken_22 : decode cX12_broken 22 = .ok (.ifCond .ne 7, 3) := by decide +kernel
theorem dX12_broken_25 : decode cX12_broken 25 = .ok (.iconst 0, 1) := by decide +kernel
theorem dX12_broken_26 : decode cX12_broken 26 = .ok (.goto 4, 3) := by decide +kernel
theorem dX12_broken_29 : decode cX12_broken 29 = .ok (.iconst 1, 1) := by decide +kernel
theorem dX12_broken_30 : decode cX12_broken 30 = .ok (.iadd, 1) := by decide +kernel
theorem dX12_broken_31 : decode cX12_broken 31 = .ok (.istore_n 1, 1) := by decide +kernel
theorem dX12_broken_32 : decode cX12_broken 32 = .ok (.iinc 2 1, 3) := by decide +kernel
theorem dX12_broken_35 : decode cX12_broken 35 = .ok (.goto (-31), 3) := by decide +kernel
theorem dX12_broken_38 : decode cX12_broken 38 = .ok (.iload_n 1, 1) := by decide +kernel
theorem dX12_broken_39 : decode cX12_broken 39 = .ok (.ireturn, 1) := by decide +kernel
theorem dX12_linked_0 : decode cX12_linked 0 = .ok (.iload_n 1, 1) := by decide +kernel
theorem dX12_linked_1 : decode cX12_linked 1 = .ok (.iconst 0, 1) := by decide +kernel
theorem dX12_linked_2 : decode cX12_linked 2 = .ok (.aload_n 0, 1) := by decide +kernel
theorem dX12_linked_3 : decode cX12_linked 3 = .ok (.getfield 7, 3) := by decide +kernel
theorem dX12_linked_6 : decode cX12_linked 6 = .ok (.sipush 175, 3) := by decide +kernel
theorem dX12_linked_9 : decode cX12_linked 9 = .ok (.iaload, 1) := by decide +kernel
theorem dX12_linked_10 : decode cX12_linked 10 = .ok (.iconst 1, 1) := by decide +kernel
theorem dX12_linked_11 : decode cX12_linked 11 = .ok (.isub, 1) := by decide +kernel
theorem dX12_linked_12 : decode cX12_linked 12 = .ok (.invokestatic 45, 3) := by decide +kernel
theorem dX12_linked_15 : decode cX12_linked 15 = .ok (.ifCond .eq 12, 3) := by decide +kernel
theorem dX12_linked_18 : decode cX12_linked 18 = .ok (.iload_n 2, 1) := by decide +kernel
theorem dX12_linked_19 : decode cX12_linked 19 = .ok (.iconst 0, 1) := by decide +kernel
theorem dX12_linked_20 : decode cX12_linked 20 = .ok (.iconst 4, 1) := by decide +kernel
theorem dX12_linked_21 : decode cX12_linked 21 = .ok (.invokestatic 45, 3) := by decide +kernel
theorem dX12_linked_24 : decode cX12_linked 24 = .ok (.ifCond .ne 5, 3) := by decide +kernel
theorem dX12_linked_27 : decode cX12_linked 27 = .ok (.iconst (-1), 1) := by decide +kernel
theorem dX12_linked_28 : decode cX12_linked 28 = .ok (.ireturn, 1) := by decide +kernel
theorem dX12_linked_29 : decode cX12_linked 29 = .ok (.iload_n 2, 1) := by decide +kernel
theorem dX12_linked_30 : decode cX12_linked 30 = .ok (.iconst 3, 1) := by decide +kernel
theorem dX12_linked_31 : decode cX12_linked 31 = .ok (.if_icmp .ge 18, 3) := by decide +kernel
theorem dX12_linked_34 : decode cX12_linked 34 = .ok (.aload_n 0, 1) := by decide +kernel
theorem dX12_linked_35 : decode cX12_linked 35 = .ok (.getfield 7, 3) := by decide +kernel
theorem dX12_linked_38 : decode cX12_linked 38 = .ok (.sipush 216, 3) := by decide +kernel
theorem dX12_linked_41 : decode cX12_linked 41 = .ok (.iconst 3, 1) := by decide +kernel
theorem dX12_linked_42 : decode cX12_linked 42 = .ok (.iload_n 1, 1) := by decide +kernel
theorem dX12_linked_43 : decode cX12_linked 43 = .ok (.imul, 1) := by decide +kernel
theorem dX12_linked_44 : decode cX12_linked 44 = .ok (.iadd, 1) := by decide +kernel
theorem dX12_linked_45 : decode cX12_linked 45 = .ok (.iload_n 2, 1) := by decide +kernel
theorem dX12_linked_46 : decode cX12_linked 46 = .ok (.iadd, 1) := by decide +kernel
theorem dX12_linked_47 : decode cX12_linked 47 = .ok (.iaload, 1) := by decide +kernel
theorem dX12_linked_48 : decode cX12_linked 48 = .ok (.ireturn, 1) := by decide +kernel
theorem dX12_linked_49 : decode cX12_linked 49 = .ok (.iload_n 2, 1) := by decide +kernel
theorem dX12_linked_50 : decode cX12_linked 50 = .ok (.iconst 4, 1) := by decide +kernel
theorem dX12_linked_51 : decode cX12_linked 51 = .ok (.if_icmp .ne 11, 3) := by decide +kernel
theorem dX12_linked_54 : decode cX12_linked 54 = .ok (.aload_n 0, 1) := by decide +kernel
theorem dX12_linked_55 : decode cX12_linked 55 = .ok (.iload_n 1, 1) := by decide +kernel
theorem dX12_linked_56 : decode cX12_linked 56 = .ok (.invokevirtual 286, 3) := by decide +kernel
theorem dX12_linked_59 : decode cX12_linked 59 = .ok (.goto 16, 3) := by decide +kernel
theorem dX12_linked_62 : decode cX12_linked 62 = .ok (.aload_n 0, 1) := by decide +kernel
theorem dX12_linked_63 : decode cX12_linked 63 = .ok (.iload_n 1, 1) := by decide +kernel
theorem dX12_linked_64 : decode cX12_linked 64 = .ok (.invokevirtual 286, 3) := by decide +kernel
theorem dX12_linked_67 : decode cX12_linked 67 = .ok (.ifCond .ne 7, 3) := by decide +kernel
theorem dX12_linked_70 : decode cX12_linked 70 = .ok (.iconst 0, 1) := by decide +kernel
theorem dX12_linked_71 : decode cX12_linked 71 = .ok (.goto 4, 3) := by decide +kernel
theorem dX12_linked_74 : decode cX12_linked 74 = .ok (.iconst 1, 1) := by decide +kernel
theorem dX12_linked_75 : decode cX12_linked 75 = .ok (.ireturn, 1) := by decide +kernel
theorem dX12_breaks_0 : decode cX12_breaks 0 = .ok (.aload_n 0, 1) := by decide +kernel
theorem dX12_breaks_1 : decode cX12_breaks 1 = .ok (.iload_n 1, 1) := by decide +kernel
theorem dX12_breaks_2 : decode cX12_breaks 2 = .ok (.invokevirtual 206, 3) := by decide +kernel
theorem dX12_breaks_5 : decode cX12_breaks 5 = .ok (.ifCond .eq 19, 3) := by decide +kernel
theorem dX12_breaks_8 : decode cX12_breaks 8 = .ok (.iload_n 2, 1) := by decide +kernel
theorem dX12_breaks_9 : decode cX12_breaks 9 = .ok (.invokestatic 162, 3) := by decide +kernel
theorem dX12_breaks_12 : decode cX12_breaks 12 = .ok (.ifCond .eq 12, 3) := by decide +kernel
theorem dX12_breaks_15 : decode cX12_breaks 15 = .ok (.iload_n 2, 1) := by decide +kernel
theorem dX12_breaks_16 : decode cX12_breaks 16 = .ok (.aload_n 0, 1) := by decide +kernel
theorem dX12_breaks_17 : decode cX12_breaks 17 = .ok (.iload_n 1, 1) := by decide +kernel
theorem dX12_breaks_18 : decode cX12_breaks 18 = .ok (.invokevirtual 156, 3) := by decide +kernel
theorem dX12_breaks_21 : decode cX12_breaks 21 = .ok (.if_icmp .ge 6, 3) := by decide +kernel
theorem dX12_breaks_24 : decode cX12_breaks 24 = .ok (.ldc 209, 2) := by decide +kernel
theorem dX12_breaks_26 : decode cX12_breaks 26 = .ok (.ireturn, 1) := by decide +kernel
theorem dX12_breaks_27 : decode cX12_breaks 27 = .ok (.aload_n 0, 1) := by decide +kernel
theorem dX12_breaks_28 : decode cX12_breaks 28 = .ok (.invokevirtual 289, 3) := by decide +kernel
theorem dX12_breaks_31 : decode cX12_breaks 31 = .ok (.istore_n 3, 1) := by decide +kernel
theorem dX12_breaks_32 : decode cX12_breaks 32 = .ok (.aload_n 0, 1) := by decide +kernel
theorem dX12_breaks_33 : decode cX12_breaks 33 = .ok (.iload_n 1, 1) := by decide +kernel
theorem dX12_breaks_34 : decode cX12_breaks 34 = .ok (.iconst 4, 1) := by decide +kernel
theorem dX12_breaks_35 : decode cX12_breaks 35 = .ok (.invokevirtual 128, 3) := by decide +kernel
theorem dX12_breaks_38 : decode cX12_breaks 38 = .ok (.istore 4, 2) := by decide +kernel
theorem dX12_breaks_40 : decode cX12_breaks 40 = .ok (.aload_n 0, 1) := by decide +kernel
theorem dX12_breaks_41 : decode cX12_breaks 41 = .ok (.iload_n 1, 1) := by decide +kernel
theorem dX12_breaks_42 : decode cX12_breaks 42 = .ok (.iload_n 2, 1) := by decide +kernel
theorem dX12_breaks_43 : decode cX12_breaks 43 = .ok (.invokevirtual 174, 3) := by decide +kernel
theorem dX12_breaks_46 : decode cX12_breaks 46 = .ok (.aload_n 0, 1) := by decide +kernel
theorem dX12_breaks_47 : decode cX12_breaks 47 = .ok (.invokevirtual 289, 3) := by decide +kernel
theorem dX12_breaks_50 : decode cX12_breaks 50 = .ok (.istore 5, 2) := by decide +kernel
theorem dX12_breaks_52 : decode cX12_breaks 52 = .ok (.aload_n 0, 1) := by decide +kernel
theorem dX12_breaks_53 : decode cX12_breaks 53 = .ok (.iload_n 1, 1) := by decide +kernel
theorem dX12_breaks_54 : decode cX12_breaks 54 = .ok (.iload 4, 2) := by decide +kernel
theorem dX12_breaks_56 : decode cX12_breaks 56 = .ok (.invokevirtual 174, 3) := by decide +kernel
theorem dX12_breaks_59 : decode cX12_breaks 59 = .ok (.iload 5, 2) := by decide +kernel
theorem dX12_breaks_61 : decode cX12_breaks 61 = .ok (.iload_n 3, 1) := by decide +kernel
theorem dX12_breaks_62 : decode cX12_breaks 62 = .ok (.isub, 1) := by decide +kernel
theorem dX12_breaks_63 : decode cX12_breaks 63 = .ok (.ireturn, 1) := by decide +kernel
theorem dX12_cancelAll_0 : decode cX12_cancelAll 0 = .ok (.iload_n 1, 1) := by decide +kernel
theorem dX12_cancelAll_1 : decode cX12_cancelAll 1 = .ok (.invokestatic 104, 3) := by decide +kernel
theorem dX12_cancelAll_4 : decode cX12_cancelAll 4 = .ok (.ifCond .ne 5, 3) := by decide +kernel
theorem dX12_cancelAll_7 : decode cX12_cancelAll 7 = .ok (.iconst (-1), 1) := by decide +kernel
theorem dX12_cancelAll_8 : decode cX12_cancelAll 8 = .ok (.ireturn, 1) := by decide +kernel
theorem dX12_cancelAll_9 : decode cX12_cancelAll 9 = .ok (.iconst 0, 1) := by decide +kernel
theorem dX12_cancelAll_10 : decode cX12_cancelAll 10 = .ok (.istore_n 2, 1) := by decide +kernel
theorem dX12_cancelAll_11 : decode cX12_cancelAll 11 = .ok (.iconst 0, 1) := by decide +kernel
theorem dX12_cancelAll_12 : decode cX12_cancelAll 12 = .ok (.istore_n 3, 1) := by decide +kernel
theorem dX12_cancelAll_13 : decode cX12_cancelAll 13 = .ok (.iload_n 3, 1) := by decide +kernel
theorem dX12_cancelAll_14 : decode cX12_cancelAll 14 = .ok (.aload_n 0, 1) := by decide +kernel
theorem dX12_cancelAll_15 : decode cX12_cancelAll 15 = .ok (.getfield 7, 3) := by decide +kernel
theorem dX12_cancelAll_18 : decode cX12_cancelAll 18 = .ok (.sipush 173, 3) := by decide +kernel
theorem dX12_cancelAll_21 : decode cX12_cancelAll 21 = .ok (.iaload, 1) := by decide +kernel
theorem dX12_cancelAll_22 : decode cX12_cancelAll 22 = .ok (.if_icmp .ge 41, 3) := by decide +kernel
theorem dX12_cancelAll_25 : decode cX12_cancelAll 25 = .ok (.aload_n 0, 1) := by decide +kernel
theorem dX12_cancelAll_26 : decode cX12_cancelAll 26 = .ok (.iload_n 3, 1) := by decide +kernel
theorem dX12_cancelAll_27 : decode cX12_cancelAll 27 = .ok (.iconst 0, 1) := by decide +kernel
theorem dX12_cancelAll_28 : decode cX12_cancelAll 28 = .ok (.invokevirtual 128, 3) := by decide +kernel
theorem dX12_cancelAll_31 : decode cX12_cancelAll 31 = .ok (.iload_n 1, 1) := by decide +kernel
theorem dX12_cancelAll_32 : decode cX12_cancelAll 32 = .ok (.if_icmp .ne 25, 3) := by decide +kernel
theorem dX12_cancelAll_35 : decode cX12_cancelAll 35 = .ok (.aload_n 0, 1) := by decide +kernel
theorem dX12_cancelAll_36 : decode cX12_cancelAll 36 = .ok (.iload_n 3, 1) := by decide +kernel
theorem dX12_cancelAll_37 : decode cX12_cancelAll 37 = .ok (.invokevirtual 203, 3) := by decide +kernel
theorem dX12_cancelAll_40 : decode cX12_cancelAll 40 = .ok (.ifCond .ne 6, 3) := by decide +kernel
theorem dX12_cancelAll_43 : decode cX12_cancelAll 43 = .ok (.goto 14, 3) := by decide +kernel
theorem dX12_cancelAll_46 : decode cX12_cancelAll 46 = .ok (.aload_n 0, 1) := by decide +kernel
theorem dX12_cancelAll_47 : decode cX12_cancelAll 47 = .ok (.iload_n 3, 1) := by decide +kernel
theorem dX12_cancelAll_48 : decode cX12_cancelAll 48 = .ok (.invokevirtual 200, 3) := by decide +kernel
theorem dX12_cancelAll_51 : decode cX12_cancelAll 51 = .ok (.iload_n 2, 1) := by decide +kernel
theorem dX12_cancelAll_52 : decode cX12_cancelAll 52 = .ok (.iconst 1, 1) := by decide +kernel
theorem dX12_cancelAll_53 : decode cX12_cancelAll 53 = .ok (.iload_n 3, 1) := by decide +kernel
theorem dX12_cancelAll_54 : decode cX12_cancelAll 54 = .ok (.ishl, 1) := by decide +kernel
theorem dX12_cancelAll_55 : decode cX12_cancelAll 55 = .ok (.ior, 1) := by decide +kernel
theorem dX12_cancelAll_56 : decode cX12_cancelAll 56 = .ok (.istore_n 2, 1) := by decide +kernel
theorem dX12_cancelAll_57 : decode cX12_cancelAll 57 = .ok (.iinc 3 1, 3) := by decide +kernel
theorem dX12_cancelAll_60 : decode cX12_cancelAll 60 = .ok (.goto (-47), 3) := by decide +kernel
theorem dX12_cancelAll_63 : decode cX12_cancelAll 63 = .ok (.iload_n 2, 1) := by decide +kernel
theorem dX12_cancelAll_64 : decode cX12_cancelAll 64 = .ok (.ireturn, 1) := by decide +kernel
theorem dX12_allOf_0 : decode cX12_allOf 0 = .ok (.iconst 0, 1) := by decide +kernel
theorem dX12_allOf_1 : decode cX12_allOf 1 = .ok (.istore_n 2, 1) := by decide +kernel
theorem dX12_allOf_2 : decode cX12_allOf 2 = .ok (.iconst 0, 1) := by decide +kernel
theorem dX12_allOf_3 : decode cX12_allOf 3 = .ok (.istore_n 3, 1) := by decide +kernel
theorem dX12_allOf_4 : decode cX12_allOf 4 = .ok (.iload_n 3, 1) := by decide +kernel
theorem dX12_allOf_5 : decode cX12_allOf 5 = .ok (.aload_n 0, 1) := by decide +kernel
theorem dX12_allOf_6 : decode cX12_allOf 6 = .ok (.getfield 7, 3) := by decide +kernel
theorem dX12_allOf_9 : decode cX12_allOf 9 = .ok (.sipush 173, 3) := by decide +kernel
theorem dX12_allOf_12 : decode cX12_allOf 12 = .ok (.iaload, 1) := by decide +kernel
theorem dX12_allOf_13 : decode cX12_allOf 13 = .ok (.if_icmp .ge 30, 3) := by decide +kernel
theorem dX12_allOf_16 : decode cX12_allOf 16 = .ok (.iload_n 2, 1) := by decide +kernel
theorem dX12_allOf_17 : decode cX12_allOf 17 = .ok (.aload_n 0, 1) := by decide +kernel
theorem dX12_allOf_18 : decode cX12_allOf 18 = .ok (.iload_n 3, 1) := by decide +kernel
theorem dX12_allOf_19 : decode cX12_allOf 19 = .ok (.invokevirtual 144, 3) := by decide +kernel
theorem dX12_allOf_22 : decode cX12_allOf 22 = .ok (.ifCond .eq 12, 3) := by decide +kernel
theorem dX12_allOf_25 : decode cX12_allOf 25 = .ok (.aload_n 0, 1) := by decide +kernel
theorem dX12_allOf_26 : decode cX12_allOf 26 = .ok (.iload_n 3, 1) := by decide +kernel
theorem dX12_allOf_27 : decode cX12_allOf 27 = .ok (.iload_n 1, 1) := by decide +kernel
theorem dX12_allOf_28 : decode cX12_allOf 28 = .ok (.invokevirtual 128, 3) := by decide +kernel
theorem dX12_allOf_31 : decode cX12_allOf 31 = .ok (.goto 4, 3) := by decide +kernel
theorem dX12_allOf_34 : decode cX12_allOf 34 = .ok (.iconst 0, 1) := by decide +kernel
theorem dX12_allOf_35 : decode cX12_allOf 35 = .ok (.iadd, 1) := by decide +kernel
theorem dX12_allOf_36 : decode cX12_allOf 36 = .ok (.istore_n 2, 1) := by decide +kernel
theorem dX12_allOf_37 : decode cX12_allOf 37 = .ok (.iinc 3 1, 3) := by decide +kernel
theorem dX12_allOf_40 : decode cX12_allOf 40 = .ok (.goto (-36), 3) := by decide +kernel
theorem dX12_allOf_43 : decode cX12_allOf 43 = .ok (.iload_n 2, 1) := by decide +kernel
theorem dX12_allOf_44 : decode cX12_allOf 44 = .ok (.ireturn, 1) := by decide +kernel
theorem dX12_longest_0 : decode cX12_longest 0 = .ok (.iconst 0, 1) := by decide +kernel
theorem dX12_longest_1 : decode cX12_longest 1 = .ok (.istore_n 1, 1) := by decide +kernel
theorem dX12_longest_2 : decode cX12_longest 2 = .ok (.iconst 0, 1) := by decide +kernel
theorem dX12_longest_3 : decode cX12_longest 3 = .ok (.istore_n 2, 1) := by decide +kernel
theorem dX12_longest_4 : decode cX12_longest 4 = .ok (.iload_n 2, 1) := by decide +kernel
theorem dX12_longest_5 : decode cX12_longest 5 = .ok (.aload_n 0, 1) := by decide +kernel
theorem dX12_longest_6 : decode cX12_longest 6 = .ok (.getfield 7, 3) := by decide +kernel
theorem dX12_longest_9 : decode cX12_longest 9 = .ok (.sipush 173, 3) := by decide +kernel
theorem dX12_longest_12 : decode cX12_longest 12 = .ok (.iaload, 1) := by decide +kernel
theorem dX12_longest_13 : decode cX12_longest 13 = .ok (.if_icmp .ge 19, 3) := by decide +kernel
theorem dX12_longest_16 : decode cX12_longest 16 = .ok (.iload_n 1, 1) := by decide +kernel
theorem dX12_longest_17 : decode cX12_longest 17 = .ok (.aload_n 0, 1) := by decide +kernel
theorem dX12_longest_18 : decode cX12_longest 18 = .ok (.iload_n 2, 1) := by decide +kernel
theorem dX12_longest_19 : decode cX12_longest 19 = .ok (.invokevirtual 194, 3) := by decide +kernel
theorem dX12_longest_22 : decode cX12_longest 22 = .ok (.invokestatic 141, 3) := by decide +kernel
theorem dX12_longest_25 : decode cX12_longest 25 = .ok (.istore_n 1, 1) := by decide +kernel
theorem dX12_longest_26 : decode cX12_longest 26 = .ok (.iinc 2 1, 3) := by decide +kernel
theorem dX12_longest_29 : decode cX12_longest 29 = .ok (.goto (-25), 3) := by decide +kernel
theorem dX12_longest_32 : decode cX12_longest 32 = .ok (.iload_n 1, 1) := by decide +kernel
theorem dX12_longest_33 : decode cX12_longest 33 = .ok (.ireturn, 1) := by decide +kernel
theorem dX12_lastSlot_0 : decode cX12_lastSlot 0 = .ok (.iconst 0, 1) := by decide +kernel
theorem dX12_lastSlot_1 : decode cX12_lastSlot 1 = .ok (.istore_n 1, 1) := by decide +kernel
theorem dX12_lastSlot_2 : decode cX12_lastSlot 2 = .ok (.iconst 0, 1) := by decide +kernel
theorem dX12_lastSlot_3 : decode cX12_lastSlot 3 = .ok (.istore_n 2, 1) := by decide +kernel
theorem dX12_lastSlot_4 : decode cX12_lastSlot 4 = .ok (.iload_n 2, 1) := by decide +kernel
theorem dX12_lastSlot_5 : decode cX12_lastSlot 5 = .ok (.aload_n 0, 1) := by decide +kernel
theorem dX12_lastSlot_6 : decode cX12_lastSlot 6 = .ok (.getfield 7, 3) := by decide +kernel
theorem dX12_lastSlot_9 : decode cX12_lastSlot 9 = .ok (.sipush 173, 3) := by decide +kernel
theorem dX12_lastSlot_12 : decode cX12_lastSlot 12 = .ok (.iaload, 1) := by decide +kernel
theorem dX12_lastSlot_13 : decode cX12_lastSlot 13 = .ok (.if_icmp .ge 32, 3) := by decide +kernel
theorem dX12_lastSlot_16 : decode cX12_lastSlot 16 = .ok (.aload_n 0, 1) := by decide +kernel
theorem dX12_lastSlot_17 : decode cX12_lastSlot 17 = .ok (.iload_n 2, 1) := by decide +kernel
theorem dX12_lastSlot_18 : decode cX12_lastSlot 18 = .ok (.invokevirtual 144, 3) := by decide +kernel
theorem dX12_lastSlot_21 : decode cX12_lastSlot 21 = .ok (.ifCond .eq 16, 3) := by decide +kernel
theorem dX12_lastSlot_24 : decode cX12_lastSlot 24 = .ok (.iload_n 1, 1) := by decide +kernel
theorem dX12_lastSlot_25 : decode cX12_lastSlot 25 = .ok (.aload_n 0, 1) := by decide +kernel
theorem dX12_lastSlot_26 : decode cX12_lastSlot 26 = .ok (.iload_n 2, 1) := by decide +kernel
theorem dX12_lastSlot_27 : decode cX12_lastSlot 27 = .ok (.iconst 4, 1) := by decide +kernel
theorem dX12_lastSlot_28 : decode cX12_lastSlot 28 = .ok (.invokevirtual 128, 3) := by decide +kernel
theorem dX12_lastSlot_31 : decode cX12_lastSlot 31 = .ok (.invokestatic 141, 3) := by decide +kernel
theorem dX12_lastSlot_34 : decode cX12_lastSlot 34 = .ok (.goto 4, 3) := by decide +kernel
theorem dX12_lastSlot_37 : decode cX12_lastSlot 37 = .ok (.iload_n 1, 1) := by decide +kernel
theorem dX12_lastSlot_38 : decode cX12_lastSlot 38 = .ok (.istore_n 1, 1) := by decide +kernel
theorem dX12_lastSlot_39 : decode cX12_lastSlot 39 = .ok (.iinc 2 1, 3) := by decide +kernel
theorem dX12_lastSlot_42 : decode cX12_lastSlot 42 = .ok (.goto (-38), 3) := by decide +kernel
theorem dX12_lastSlot_45 : decode cX12_lastSlot 45 = .ok (.iload_n 1, 1) := by decide +kernel
theorem dX12_lastSlot_46 : decode cX12_lastSlot 46 = .ok (.ireturn, 1) := by decide +kernel
theorem dX12_byRule_0 : decode cX12_byRule 0 = .ok (.iload_n 1, 1) := by decide +kernel
theorem dX12_byRule_1 : decode cX12_byRule 1 = .ok (.iconst 0, 1) := by decide +kernel
theorem dX12_byRule_2 : decode cX12_byRule 2 = .ok (.iconst 2, 1) := by decide +kernel
theorem dX12_byRule_3 : decode cX12_byRule 3 = .ok (.invokestatic 45, 3) := by decide +kernel
theorem dX12_byRule_6 : decode cX12_byRule 6 = .ok (.ifCond .eq 12, 3) := by decide +kernel
theorem dX12_byRule_9 : decode cX12_byRule 9 = .ok (.iload_n 2, 1) := by decide +kernel
theorem dX12_byRule_10 : decode cX12_byRule 10 = .ok (.iconst 0, 1) := by decide +kernel
theorem dX12_byRule_11 : decode cX12_byRule 11 = .ok (.iconst 3, 1) := by decide +kernel
theorem dX12_byRule_12 : decode cX12_byRule 12 = .ok (.invokestatic 45, 3) := by decide +kernel
theorem dX12_byRule_15 : decode cX12_byRule 15 = .ok (.ifCond .ne 5, 3) := by decide +kernel
theorem dX12_byRule_18 : decode cX12_byRule 18 = .ok (.iconst (-1), 1) := by decide +kernel
theorem dX12_byRule_19 : decode cX12_byRule 19 = .ok (.ireturn, 1) := by decide +kernel
theorem dX12_byRule_20 : decode cX12_byRule 20 = .ok (.aload_n 0, 1) := by decide +kernel
theorem dX12_byRule_21 : decode cX12_byRule 21 = .ok (.getfield 7, 3) := by decide +kernel
theorem dX12_byRule_24 : decode cX12_byRule 24 = .ok (.sipush 173, 3) := by decide +kernel
theorem dX12_byRule_27 : decode cX12_byRule 27 = .ok (.iaload, 1) := by decide +kernel
theorem dX12_byRule_28 : decode cX12_byRule 28 = .ok (.ifCond .ne 6, 3) := by decide +kernel
theorem dX12_byRule_31 : decode cX12_byRule 31 = .ok (.bipush (-2), 2) := by decide +kernel
theorem dX12_byRule_33 : decode cX12_byRule 33 = .ok (.ireturn, 1) := by decide +kernel
theorem dX12_byRule_34 : decode cX12_byRule 34 = .ok (.aload_n 0, 1) := by decide +kernel
theorem dX12_byRule_35 : decode cX12_byRule 35 = .ok (.bipush 8, 2) := by decide +kernel
theorem dX12_byRule_37 : decode cX12_byRule 37 = .ok (.invokevirtual 243, 3) := by decide +kernel
theorem dX12_byRule_40 : decode cX12_byRule 40 = .ok (.aload_n 0, 1) := by decide +kernel
theorem dX12_byRule_41 : decode cX12_byRule 41 = .ok (.iload_n 1, 1) := by decide +kernel
theorem dX12_byRule_42 : decode cX12_byRule 42 = .ok (.invokevirtual 191, 3) := by decide +kernel
theorem dX12_byRule_45 : decode cX12_byRule 45 = .ok (.iload_n 2, 1) := by decide +kernel
theorem dX12_byRule_46 : decode cX12_byRule 46 = .ok (.ifCond .ne 10, 3) := by decide +kernel
theorem dX12_byRule_49 : decode cX12_byRule 49 = .ok (.aload_n 0, 1) := by decide +kernel
theorem dX12_byRule_50 : decode cX12_byRule 50 = .ok (.invokevirtual 210, 3) := by decide +kernel
theorem dX12_byRule_53 : decode cX12_byRule 53 = .ok (.goto 32, 3) := by decide +kernel
theorem dX12_byRule_56 : decode cX12_byRule 56 = .ok (.iload_n 2, 1) := by decide +kernel
theorem dX12_byRule_57 : decode cX12_byRule 57 = .ok (.iconst 1, 1) := by decide +kernel
theorem dX12_byRule_58 : decode cX12_byRule 58 = .ok (.if_icmp .ne 11, 3) := by decide +kernel
theorem dX12_byRule_61 : decode cX12_byRule 61 = .ok (.aload_n 0, 1) := by decide +kernel
theorem dX12_byRule_62 : decode cX12_byRule 62 = .ok (.iconst 5, 1) := by decide +kernel
theorem dX12_byRule_63 : decode cX12_byRule 63 = .ok (.invokevirtual 292, 3) := by decide +kernel
theorem dX12_byRule_66 : decode cX12_byRule 66 = .ok (.goto 19, 3) := by decide +kernel
theorem dX12_byRule_69 : decode cX12_byRule 69 = .ok (.iload_n 2, 1) := by decide +kernel
theorem dX12_byRule_70 : decode cX12_byRule 70 = .ok (.iconst 2, 1) := by decide +kernel
theorem dX12_byRule_71 : decode cX12_byRule 71 = .ok (.if_icmp .ne 10, 3) := by decide +kernel
theorem dX12_byRule_74 : decode cX12_byRule 74 = .ok (.aload_n 0, 1) := by decide +kernel
theorem dX12_byRule_75 : decode cX12_byRule 75 = .ok (.invokevirtual 295, 3) := by decide +kernel
theorem dX12_byRule_78 : decode cX12_byRule 78 = .ok (.goto 7, 3) := by decide +kernel
theorem dX12_byRule_81 : decode cX12_byRule 81 = .ok (.aload_n 0, 1) := by decide +kernel
theorem dX12_byRule_82 : decode cX12_byRule 82 = .ok (.invokevirtual 283, 3) := by decide +kernel
theorem dX12_byRule_85 : decode cX12_byRule 85 = .ok (.istore_n 3, 1) := by decide +kernel
theorem dX12_byRule_86 : decode cX12_byRule 86 = .ok (.aload_n 0, 1) := by decide +kernel
theorem dX12_byRule_87 : decode cX12_byRule 87 = .ok (.bipush 8, 2) := by decide +kernel
theorem dX12_byRule_89 : decode cX12_byRule 89 = .ok (.invokevirtual 246, 3) := by decide +kernel
theorem dX12_byRule_92 : decode cX12_byRule 92 = .ok (.iload_n 3, 1) := by decide +kernel
theorem dX12_byRule_93 : decode cX12_byRule 93 = .ok (.ireturn, 1) := by decide +kernel
theorem dX12_demand_0 : decode cX12_demand 0 = .ok (.iload_n 1, 1) := by decide +kernel
theorem dX12_demand_1 : decode cX12_demand 1 = .ok (.iconst 0, 1) := by decide +kernel
theorem dX12_demand_2 : decode cX12_demand 2 = .ok (.bipush 11, 2) := by decide +kernel
theorem dX12_demand_4 : decode cX12_demand 4 = .ok (.invokestatic 45, 3) := by decide +kernel
theorem dX12_demand_7 : decode cX12_demand 7 = .ok (.ifCond .eq 12, 3) := by decide +kernel
theorem dX12_demand_10 : decode cX12_demand 10 = .ok (.iload_n 2, 1) := by decide +kernel
theorem dX12_demand_11 : decode cX12_demand 11 = .ok (.iconst 0, 1) := by decide +kernel
theorem dX12_demand_12 : decode cX12_demand 12 = .ok (.iconst 2, 1) := by decide +kernel
theorem dX12_demand_13 : decode cX12_demand 13 = .ok (.invokestatic 45, 3) := by decide +kernel
theorem dX12_demand_16 : decode cX12_demand 16 = .ok (.ifCond .ne 5, 3) := by decide +kernel
theorem dX12_demand_19 : decode cX12_demand 19 = .ok (.iconst (-1), 1) := by decide +kernel
theorem dX12_demand_20 : decode cX12_demand 20 = .ok (.ireturn, 1) := by decide +kernel
theorem dX12_demand_21 : decode cX12_demand 21 = .ok (.iload_n 2, 1) := by decide +kernel
theorem dX12_demand_22 : decode cX12_demand 22 = .ok (.iconst 1, 1) := by decide +kernel
theorem dX12_demand_23 : decode cX12_demand 23 = .ok (.if_icmp .ne 14, 3) := by decide +kernel
theorem dX12_demand_26 : decode cX12_demand 26 = .ok (.aload_n 0, 1) := by decide +kernel
theorem dX12_demand_27 : decode cX12_demand 27 = .ok (.getfield 7, 3) := by decide +kernel
theorem dX12_demand_30 : decode cX12_demand 30 = .ok (.sipush 160, 3) := by decide +kernel
theorem dX12_demand_33 : decode cX12_demand 33 = .ok (.iload_n 1, 1) := by decide +kernel
theorem dX12_demand_34 : decode cX12_demand 34 = .ok (.iadd, 1) := by decide +kernel
theorem dX12_demand_35 : decode cX12_demand 35 = .ok (.iaload, 1) := by decide +kernel
theorem dX12_demand_36 : decode cX12_demand 36 = .ok (.ireturn, 1) := by decide +kernel
theorem dX12_demand_37 : decode cX12_demand 37 = .ok (.iconst 0, 1) := by decide +kernel
theorem dX12_demand_38 : decode cX12_demand 38 = .ok (.istore_n 3, 1) := by decide +kernel
theorem dX12_demand_39 : decode cX12_demand 39 = .ok (.iconst 0, 1) := by decide +kernel
theorem dX12_demand_40 : decode cX12_demand 40 = .ok (.istore 4, 2) := by decide +kernel
theorem dX12_demand_42 : decode cX12_demand 42 = .ok (.iload 4, 2) := by decide +kernel
theorem dX12_demand_44 : decode cX12_demand 44 = .ok (.aload_n 0, 1) := by decide +kernel
theorem dX12_demand_45 : decode cX12_demand 45 = .ok (.getfield 7, 3) := by decide +kernel
theorem dX12_demand_48 : decode cX12_demand 48 = .ok (.sipush 173, 3) := by decide +kernel
theorem dX12_demand_51 : decode cX12_demand 51 = .ok (.iaload, 1) := by decide +kernel
theorem dX12_demand_52 : decode cX12_demand 52 = .ok (.if_icmp .ge 66, 3) := by decide +kernel
theorem dX12_demand_55 : decode cX12_demand 55 = .ok (.iload_n 3, 1) := by decide +kernel
theorem dX12_demand_56 : decode cX12_demand 56 = .ok (.iload_n 2, 1) := by decide +kernel
theorem dX12_demand_57 : decode cX12_demand 57 = .ok (.ifCond .ne 25, 3) := by decide +kernel
theorem dX12_demand_60 : decode cX12_demand 60 = .ok (.aload_n 0, 1) := by decide +kernel
theorem dX12_demand_61 : decode cX12_demand 61 = .ok (.iload 4, 2) := by decide +kernel
theorem dX12_demand_63 : decode cX12_demand 63 = .ok (.iconst 1, 1) := by decide +kernel
theorem dX12_demand_64 : decode cX12_demand 64 = .ok (.invokevirtual 128, 3) := by decide +kernel
theorem dX12_demand_67 : decode cX12_demand 67 = .ok (.bipush 60, 2) := by decide +kernel
theorem dX12_demand_69 : decode cX12_demand 69 = .ok (.idiv, 1) := by decide +kernel
theorem dX12_demand_70 : decode cX12_demand 70 = .ok (.iload_n 1, 1) := by decide +kernel
theorem dX12_demand_71 : decode cX12_demand 71 = .ok (.if_icmp .ne 7, 3) := by decide +kernel
theorem dX12_demand_74 : decode cX12_demand 74 = .ok (.iconst 1, 1) := by decide +kernel
theorem dX12_demand_75 : decode cX12_demand 75 = .ok (.goto 35, 3) := by decide +kernel
theorem dX12_demand_78 : decode cX12_demand 78 = .ok (.iconst 0, 1) := by decide +kernel
theorem dX12_demand_79 : decode cX12_demand 79 = .ok (.goto 31, 3) := by decide +kernel
theorem dX12_demand_82 : decode cX12_demand 82 = .ok (.aload_n 0, 1) := by decide +kernel
theorem dX12_demand_83 : decode cX12_demand 83 = .ok (.iload 4, 2) := by decide +kernel
theorem dX12_demand_85 : decode cX12_demand 85 = .ok (.invokevirtual 144, 3) := by decide +kernel
theorem dX12_demand_88 : decode cX12_demand 88 = .ok (.ifCond .eq 21, 3) := by decide +kernel
theorem dX12_demand_91 : decode cX12_demand 91 = .ok (.aload_n 0, 1) := by decide +kernel
theorem dX12_demand_92 : decode cX12_demand 92 = .ok (.iload 4, 2) := by decide +kernel
theorem dX12_demand_94 : decode cX12_demand 94 = .ok (.iconst 4, 1) := by decide +kernel
theorem dX12_demand_95 : decode cX12_demand 95 = .ok (.invokevirtual 128, 3) := by decide +kernel
theorem dX12_demand_98 : decode cX12_demand 98 = .ok (.bipush 60, 2) := by decide +kernel
theorem dX12_demand_100 : decode cX12_demand 100 = .ok (.idiv, 1) := by decide +kernel
theorem dX12_demand_101 : decode cX12_demand 101 = .ok (.iload_n 1, 1) := by decide +kernel
theorem dX12_demand_102 : decode cX12_demand 102 = .ok (.if_icmp .ne 7, 3) := by decide +kernel
theorem dX12_demand_105 : decode cX12_demand 105 = .ok (.iconst 1, 1) := by decide +kernel
theorem dX12_demand_106 : decode cX12_demand 106 = .ok (.goto 4, 3) := by decide +kernel
theorem dX12_demand_109 : decode cX12_demand 109 = .ok (.iconst 0, 1) := by decide +kernel
theorem dX12_demand_110 : decode cX12_demand 110 = .ok (.iadd, 1) := by decide +kernel
theorem dX12_demand_111 : decode cX12_demand 111 = .ok (.istore_n 3, 1) := by decide +kernel
theorem dX12_demand_112 : decode cX12_demand 112 = .ok (.iinc 4 1, 3) := by decide +kernel
theorem dX12_demand_115 : decode cX12_demand 115 = .ok (.goto (-73), 3) := by decide +kernel
theorem dX12_demand_118 : decode cX12_demand 118 = .ok (.iload_n 3, 1) := by decide +kernel
theorem dX12_demand_119 : decode cX12_demand 119 = .ok (.ireturn, 1) := by decide +kernel
theorem dX12_isUnderWay_0 : decode cX12_isUnderWay 0 = .ok (.aload_n 0, 1) := by decide +kernel
theorem dX12_isUnderWay_1 : decode cX12_isUnderWay 1 = .ok (.iload_n 1, 1) := by decide +kernel
theorem dX12_isUnderWay_2 : decode cX12_isUnderWay 2 = .ok (.invokevirtual 144, 3) := by decide +kernel
theorem dX12_isUnderWay_5 : decode cX12_isUnderWay 5 = .ok (.ifCond .eq 33, 3) := by decide +kernel
theorem dX12_isUnderWay_8 : decode cX12_isUnderWay 8 = .ok (.aload_n 0, 1) := by decide +kernel
theorem dX12_isUnderWay_9 : decode cX12_isUnderWay 9 = .ok (.iload_n 1, 1) := by decide +kernel
theorem dX12_isUnderWay_10 : decode cX12_isUnderWay 10 = .ok (.invokevirtual 147, 3) := by decide +kernel
theorem dX12_isUnderWay_13 : decode cX12_isUnderWay 13 = .ok (.aload_n 0, 1) := by decide +kernel
theorem dX12_isUnderWay_14 : decode cX12_isUnderWay 14 = .ok (.iload_n 1, 1) := by decide +kernel
theorem dX12_isUnderWay_15 : decode cX12_isUnderWay 15 = .ok (.iconst 5, 1) := by decide +kernel
theorem dX12_isUnderWay_16 : decode cX12_isUnderWay 16 = .ok (.invokevirtual 128, 3) := by decide +kernel
theorem dX12_isUnderWay_19 : decode cX12_isUnderWay 19 = .ok (.iadd, 1) := by decide +kernel
theorem dX12_isUnderWay_20 : decode cX12_isUnderWay 20 = .ok (.iload_n 2, 1) := by decide +kernel
theorem dX12_isUnderWay_21 : decode cX12_isUnderWay 21 = .ok (.if_icmp .gt 17, 3) := by decide +kernel
theorem dX12_isUnderWay_24 : decode cX12_isUnderWay 24 = .ok (.aload_n 0, 1) := by decide +kernel
theorem dX12_isUnderWay_25 : decode cX12_isUnderWay 25 = .ok (.iload_n 1, 1) := by decide +kernel
theorem dX12_isUnderWay_26 : decode cX12_isUnderWay 26 = .ok (.iconst 4, 1) := by decide +kernel
theorem dX12_isUnderWay_27 : decode cX12_isUnderWay 27 = .ok (.invokevirtual 128, 3) := by decide +kernel
theorem dX12_isUnderWay_30 : decode cX12_isUnderWay 30 = .ok (.iload_n 2, 1) := by decide +kernel
theorem dX12_isUnderWay_31 : decode cX12_isUnderWay 31 = .ok (.if_icmp .le 7, 3) := by decide +kernel
theorem dX12_isUnderWay_34 : decode cX12_isUnderWay 34 = .ok (.iconst 1, 1) := by decide +kernel
theorem dX12_isUnderWay_35 : decode cX12_isUnderWay 35 = .ok (.goto 4, 3) := by decide +kernel
theorem dX12_isUnderWay_38 : decode cX12_isUnderWay 38 = .ok (.iconst 0, 1) := by decide +kernel
theorem dX12_isUnderWay_39 : decode cX12_isUnderWay 39 = .ok (.ireturn, 1) := by decide +kernel
theorem dX12_crowded_0 : decode cX12_crowded 0 = .ok (.iload_n 1, 1) := by decide +kernel
theorem dX12_crowded_1 : decode cX12_crowded 1 = .ok (.iconst 0, 1) := by decide +kernel
theorem dX12_crowded_2 : decode cX12_crowded 2 = .ok (.iconst 1, 1) := by decide +kernel
theorem dX12_crowded_3 : decode cX12_crowded 3 = .ok (.invokestatic 45, 3) := by decide +kernel
theorem dX12_crowded_6 : decode cX12_crowded 6 = .ok (.ifCond .ne 5, 3) := by decide +kernel
theorem dX12_crowded_9 : decode cX12_crowded 9 = .ok (.iconst (-1), 1) := by decide +kernel
theorem dX12_crowded_10 : decode cX12_crowded 10 = .ok (.ireturn, 1) := by decide +kernel
theorem dX12_crowded_11 : decode cX12_crowded 11 = .ok (.iconst 0, 1) := by decide +kernel
theorem dX12_crowded_12 : decode cX12_crowded 12 = .ok (.istore_n 2, 1) := by decide +kernel
theorem dX12_crowded_13 : decode cX12_crowded 13 = .ok (.iconst 0, 1) := by decide +kernel
theorem dX12_crowded_14 : decode cX12_crowded 14 = .ok (.istore_n 3, 1) := by decide +kernel
theorem dX12_crowded_15 : decode cX12_crowded 15 = .ok (.iconst 0, 1) := by decide +kernel
theorem dX12_crowded_16 : decode cX12_crowded 16 = .ok (.istore 4, 2) := by decide +kernel
theorem dX12_crowded_18 : decode cX12_crowded 18 = .ok (.iload 4, 2) := by decide +kernel
theorem dX12_crowded_20 : decode cX12_crowded 20 = .ok (.sipush 1200, 3) := by decide +kernel
theorem dX12_crowded_23 : decode cX12_crowded 23 = .ok (.if_icmp .ge 70, 3) := by decide +kernel
theorem dX12_crowded_26 : decode cX12_crowded 26 = .ok (.iconst 0, 1) := by decide +kernel
theorem dX12_crowded_27 : decode cX12_crowded 27 = .ok (.istore 5, 2) := by decide +kernel
theorem dX12_crowded_29 : decode cX12_crowded 29 = .ok (.iconst 0, 1) := by decide +kernel
theorem dX12_crowded_30 : decode cX12_crowded 30 = .ok (.istore 6, 2) := by decide +kernel
theorem dX12_crowded_32 : decode cX12_crowded 32 = .ok (.iload 6, 2) := by decide +kernel
theorem dX12_crowded_34 : decode cX12_crowded 34 = .ok (.aload_n 0, 1) := by decide +kernel
theorem dX12_crowded_35 : decode cX12_crowded 35 = .ok (.getfield 7, 3) := by decide +kernel
theorem dX12_crowded_38 : decode cX12_crowded 38 = .ok (.sipush 173, 3) := by decide +kernel
theorem dX12_crowded_41 : decode cX12_crowded 41 = .ok (.iaload, 1) := by decide +kernel
theorem dX12_crowded_42 : decode cX12_crowded 42 = .ok (.if_icmp .ge 30, 3) := by decide +kernel
theorem dX12_crowded_45 : decode cX12_crowded 45 = .ok (.iload 5, 2) := by decide +kernel
theorem dX12_crowded_47 : decode cX12_crowded 47 = .ok (.aload_n 0, 1) := by decide +kernel
theorem dX12_crowded_48 : decode cX12_crowded 48 = .ok (.iload 6, 2) := by decide +kernel
theorem dX12_crowded_50 : decode cX12_crowded 50 = .ok (.iload 4, 2) := by decide +kernel
theorem dX12_crowded_52 : decode cX12_crowded 52 = .ok (.invokevirtual 298, 3) := by decide +kernel
theorem dX12_crowded_55 : decode cX12_crowded 55 = .ok (.ifCond .eq 7, 3) := by decide +kernel
theorem dX12_crowded_58 : decode cX12_crowded 58 = .ok (.iconst 1, 1) := by decide +kernel
theorem dX12_crowded_59 : decode cX12_crowded 59 = .ok (.goto 4, 3) := by decide +kernel
theorem dX12_crowded_62 : decode cX12_crowded 62 = .ok (.iconst 0, 1) := by decide +kernel
theorem dX12_crowded_63 : decode cX12_crowded 63 = .ok (.iadd, 1) := by decide +kernel
theorem dX12_crowded_64 : decode cX12_crowded 64 = .ok (.istore 5, 2) := by decide +kernel
theorem dX12_crowded_66 : decode cX12_crowded 66 = .ok (.iinc 6 1, 3) := by decide +kernel
theorem dX12_crowded_69 : decode cX12_crowded 69 = .ok (.goto (-37), 3) := by decide +kernel
theorem dX12_crowded_72 : decode cX12_crowded 72 = .ok (.iload 5, 2) := by decide +kernel
theorem dX12_crowded_74 : decode cX12_crowded 74 = .ok (.iload_n 2, 1) := by decide +kernel
theorem dX12_crowded_75 : decode cX12_crowded 75 = .ok (.if_icmp .gt 6, 3) := by decide +kernel
theorem dX12_crowded_78 : decode cX12_crowded 78 = .ok (.goto 9, 3) := by decide +kernel
theorem dX12_crowded_81 : decode cX12_crowded 81 = .ok (.iload 5, 2) := by decide +kernel
theorem dX12_crowded_83 : decode cX12_crowded 83 = .ok (.istore_n 2, 1) := by decide +kernel
theorem dX12_crowded_84 : decode cX12_crowded 84 = .ok (.iload 4, 2) := by decide +kernel
theorem dX12_crowded_86 : decode cX12_crowded 86 = .ok (.istore_n 3, 1) := by decide +kernel
theorem dX12_crowded_87 : decode cX12_crowded 87 = .ok (.iinc 4 1, 3) := by decide +kernel
theorem dX12_crowded_90 : decode cX12_crowded 90 = .ok (.goto (-72), 3) := by decide +kernel
theorem dX12_crowded_93 : decode cX12_crowded 93 = .ok (.iload_n 1, 1) := by decide +kernel
theorem dX12_crowded_94 : decode cX12_crowded 94 = .ok (.ifCond .ne 7, 3) := by decide +kernel
theorem dX12_crowded_97 : decode cX12_crowded 97 = .ok (.iload_n 2, 1) := by decide +kernel
theorem dX12_crowded_98 : decode cX12_crowded 98 = .ok (.goto 4, 3) := by decide +kernel
theorem dX12_crowded_101 : decode cX12_crowded 101 = .ok (.iload_n 3, 1) := by decide +kernel
theorem dX12_crowded_102 : decode cX12_crowded 102 = .ok (.ireturn, 1) := by decide +kernel
theorem dX12_airborne_0 : decode cX12_airborne 0 = .ok (.iload_n 1, 1) := by decide +kernel
theorem dX12_airborne_1 : decode cX12_airborne 1 = .ok (.invokestatic 162, 3) := by decide +kernel
theorem dX12_airborne_4 : decode cX12_airborne 4 = .ok (.ifCond .ne 5, 3) := by decide +kernel
theorem dX12_airborne_7 : decode cX12_airborne 7 = .ok (.iconst (-1), 1) := by decide +kernel
theorem dX12_airborne_8 : decode cX12_airborne 8 = .ok (.ireturn, 1) := by decide +kernel
theorem dX12_airborne_9 : decode cX12_airborne 9 = .ok (.iconst 0, 1) := by decide +kernel
theorem dX12_airborne_10 : decode cX12_airborne 10 = .ok (.istore_n 2, 1) := by decide +kernel
theorem dX12_airborne_11 : decode cX12_airborne 11 = .ok (.iconst 0, 1) := by decide +kernel
theorem dX12_airborne_12 : decode cX12_airborne 12 = .ok (.istore_n 3, 1) := by decide +kernel
theorem dX12_airborne_13 : decode cX12_airborne 13 = .ok (.iload_n 3, 1) := by decide +kernel
theorem dX12_airborne_14 : decode cX12_airborne 14 = .ok (.aload_n 0, 1) := by decide +kernel
theorem dX12_airborne_15 : decode cX12_airborne 15 = .ok (.getfield 7, 3) := by decide +kernel
theorem dX12_airborne_18 : decode cX12_airborne 18 = .ok (.sipush 173, 3) := by decide +kernel
theorem dX12_airborne_21 : decode cX12_airborne 21 = .ok (.iaload, 1) := by decide +kernel
theorem dX12_airborne_22 : decode cX12_airborne 22 = .ok (.if_icmp .ge 28, 3) := by decide +kernel
theorem dX12_airborne_25 : decode cX12_airborne 25 = .ok (.iload_n 2, 1) := by decide +kernel
theorem dX12_airborne_26 : decode cX12_airborne 26 = .ok (.aload_n 0, 1) := by decide +kernel
theorem dX12_airborne_27 : decode cX12_airborne 27 = .ok (.iload_n 3, 1) := by decide +kernel
theorem dX12_airborne_28 : decode cX12_airborne 28 = .ok (.iload_n 1, 1) := by decide +kernel
theorem dX12_airborne_29 : decode cX12_airborne 29 = .ok (.invokevirtual 298, 3) := by decide +kernel
theorem dX12_airborne_32 : decode cX12_airborne 32 = .ok (.ifCond .eq 9, 3) := by decide +kernel
theorem dX12_airborne_35 : decode cX12_airborne 35 = .ok (.iconst 1, 1) := by decide +kernel
theorem dX12_airborne_36 : decode cX12_airborne 36 = .ok (.iload_n 3, 1) := by decide +kernel
theorem dX12_airborne_37 : decode cX12_airborne 37 = .ok (.ishl, 1) := by decide +kernel
theorem dX12_airborne_38 : decode cX12_airborne 38 = .ok (.goto 4, 3) := by decide +kernel
theorem dX12_airborne_41 : decode cX12_airborne 41 = .ok (.iconst 0, 1) := by decide +kernel
theorem dX12_airborne_42 : decode cX12_airborne 42 = .ok (.ior, 1) := by decide +kernel
theorem dX12_airborne_43 : decode cX12_airborne 43 = .ok (.istore_n 2, 1) := by decide +kernel
theorem dX12_airborne_44 : decode cX12_airborne 44 = .ok (.iinc 3 1, 3) := by decide +kernel
theorem dX12_airborne_47 : decode cX12_airborne 47 = .ok (.goto (-34), 3) := by decide +kernel
theorem dX12_airborne_50 : decode cX12_airborne 50 = .ok (.iload_n 2, 1) := by decide +kernel
theorem dX12_airborne_51 : decode cX12_airborne 51 = .ok (.ireturn, 1) := by decide +kernel
theorem dX12_next_0 : decode cX12_next 0 = .ok (.iload_n 1, 1) := by decide +kernel
theorem dX12_next_1 : decode cX12_next 1 = .ok (.invokestatic 162, 3) := by decide +kernel
theorem dX12_next_4 : decode cX12_next 4 = .ok (.ifCond .ne 5, 3) := by decide +kernel
theorem dX12_next_7 : decode cX12_next 7 = .ok (.iconst (-1), 1) := by decide +kernel
theorem dX12_next_8 : decode cX12_next 8 = .ok (.ireturn, 1) := by decide +kernel
theorem dX12_next_9 : decode cX12_next 9 = .ok (.iconst (-1), 1) := by decide +kernel
theorem dX12_next_10 : decode cX12_next 10 = .ok (.istore_n 2, 1) := by decide +kernel
theorem dX12_next_11 : decode cX12_next 11 = .ok (.iconst 0, 1) := by decide +kernel
theorem dX12_next_12 : decode cX12_next 12 = .ok (.istore_n 3, 1) := by decide +kernel
theorem dX12_next_13 : decode cX12_next 13 = .ok (.iload_n 3, 1) := by decide +kernel
theorem dX12_next_14 : decode cX12_next 14 = .ok (.aload_n 0, 1) := by decide +kernel
theorem dX12_next_15 : decode cX12_next 15 = .ok (.getfield 7, 3) := by decide +kernel
theorem dX12_next_18 : decode cX12_next 18 = .ok (.sipush 173, 3) := by decide +kernel
theorem dX12_next_21 : decode cX12_next 21 = .ok (.iaload, 1) := by decide +kernel
theorem dX12_next_22 : decode cX12_next 22 = .ok (.if_icmp .ge 49, 3) := by decide +kernel
theorem dX12_next_25 : decode cX12_next 25 = .ok (.aload_n 0, 1) := by decide +kernel
theorem dX12_next_26 : decode cX12_next 26 = .ok (.iload_n 3, 1) := by decide +kernel
theorem dX12_next_27 : decode cX12_next 27 = .ok (.invokevirtual 144, 3) := by decide +kernel
theorem dX12_next_30 : decode cX12_next 30 = .ok (.ifCond .eq 35, 3) := by decide +kernel
theorem dX12_next_33 : decode cX12_next 33 = .ok (.aload_n 0, 1) := by decide +kernel
theorem dX12_next_34 : decode cX12_next 34 = .ok (.iload_n 3, 1) := by decide +kernel
theorem dX12_next_35 : decode cX12_next 35 = .ok (.iconst 4, 1) := by decide +kernel
theorem dX12_next_36 : decode cX12_next 36 = .ok (.invokevirtual 128, 3) := by decide +kernel
theorem dX12_next_39 : decode cX12_next 39 = .ok (.iload_n 1, 1) := by decide +kernel
theorem dX12_next_40 : decode cX12_next 40 = .ok (.if_icmp .lt 25, 3) := by decide +kernel
theorem dX12_next_43 : decode cX12_next 43 = .ok (.iload_n 2, 1) := by decide +kernel
theorem dX12_next_44 : decode cX12_next 44 = .ok (.iconst (-1), 1) := by decide +kernel
theorem dX12_next_45 : decode cX12_next 45 = .ok (.if_icmp .eq 18, 3) := by decide +kernel
theorem dX12_next_48 : decode cX12_next 48 = .ok (.aload_n 0, 1) := by decide +kernel
theorem dX12_next_49 : decode cX12_next 49 = .ok (.iload_n 3, 1) := by decide +kernel
theorem dX12_next_50 : decode cX12_next 50 = .ok (.iconst 4, 1) := by decide +kernel
theorem dX12_next_51 : decode cX12_next 51 = .ok (.invokevirtual 128, 3) := by decide +kernel
theorem dX12_next_54 : decode cX12_next 54 = .ok (.aload_n 0, 1) := by decide +kernel
theorem dX12_next_55 : decode cX12_next 55 = .ok (.iload_n 2, 1) := by decide +kernel
theorem dX12_next_56 : decode cX12_next 56 = .ok (.iconst 4, 1) := by decide +kernel
theorem dX12_next_57 : decode cX12_next 57 = .ok (.invokevirtual 128, 3) := by decide +kernel
theorem dX12_next_60 : decode cX12_next 60 = .ok (.if_icmp .ge 5, 3) := by decide +kernel
theorem dX12_next_63 : decode cX12_next 63 = .ok (.iload_n 3, 1) := by decide +kernel
theorem dX12_next_64 : decode cX12_next 64 = .ok (.istore_n 2, 1) := by decide +kernel
theorem dX12_next_65 : decode cX12_next 65 = .ok (.iinc 3 1, 3) := by decide +kernel
theorem dX12_next_68 : decode cX12_next 68 = .ok (.goto (-55), 3) := by decide +kernel
theorem dX12_next_71 : decode cX12_next 71 = .ok (.iload_n 2, 1) := by decide +kernel
theorem dX12_next_72 : decode cX12_next 72 = .ok (.iconst (-1), 1) := by decide +kernel
theorem dX12_next_73 : decode cX12_next 73 = .ok (.if_icmp .ne 8, 3) := by decide +kernel
theorem dX12_next_76 : decode cX12_next 76 = .ok (.bipush (-2), 2) := by decide +kernel
theorem dX12_next_78 : decode cX12_next 78 = .ok (.goto 4, 3) := by decide +kernel
theorem dX12_next_81 : decode cX12_next 81 = .ok (.iload_n 2, 1) := by decide +kernel
theorem dX12_next_82 : decode cX12_next 82 = .ok (.ireturn, 1) := by decide +kernel
theorem dX12_rates_0 : decode cX12_rates 0 = .ok (.iload_n 1, 1) := by decide +kernel
theorem dX12_rates_1 : decode cX12_rates 1 = .ok (.istore 4, 2) := by decide +kernel
theorem dX12_rates_3 : decode cX12_rates 3 = .ok (.iload 4, 2) := by decide +kernel
theorem dX12_rates_5 : decode cX12_rates 5 = .ok (.iload_n 2, 1) := by decide +kernel
theorem dX12_rates_6 : decode cX12_rates 6 = .ok (.if_icmp .gt 21, 3) := by decide +kernel
theorem dX12_rates_9 : decode cX12_rates 9 = .ok (.aload_n 0, 1) := by decide +kernel
theorem dX12_rates_10 : decode cX12_rates 10 = .ok (.getfield 7, 3) := by decide +kernel
theorem dX12_rates_13 : decode cX12_rates 13 = .ok (.sipush 160, 3) := by decide +kernel
theorem dX12_rates_16 : decode cX12_rates 16 = .ok (.iload 4, 2) := by decide +kernel
theorem dX12_rates_18 : decode cX12_rates 18 = .ok (.iadd, 1) := by decide +kernel
theorem dX12_rates_19 : decode cX12_rates 19 = .ok (.iload_n 3, 1) := by decide +kernel
theorem dX12_rates_20 : decode cX12_rates 20 = .ok (.iastore, 1) := by decide +kernel
theorem dX12_rates_21 : decode cX12_rates 21 = .ok (.iinc 4 1, 3) := by decide +kernel
theorem dX12_rates_24 : decode cX12_rates 24 = .ok (.goto (-21), 3) := by decide +kernel
theorem dX12_rates_27 : decode cX12_rates 27 = .ok (.return_, 1) := by decide +kernel
theorem dX12_would_0 : decode cX12_would 0 = .ok (.iload_n 1, 1) := by decide +kernel
theorem dX12_would_1 : decode cX12_would 1 = .ok (.iconst 0, 1) := by decide +kernel
theorem dX12_would_2 : decode cX12_would 2 = .ok (.bipush 12, 2) := by decide +kernel
theorem dX12_would_4 : decode cX12_would 4 = .ok (.invokestatic 45, 3) := by decide +kernel
theorem dX12_would_7 : decode cX12_would 7 = .ok (.ifCond .eq 21, 3) := by decide +kernel
theorem dX12_would_10 : decode cX12_would 10 = .ok (.iload_n 2, 1) := by decide +kernel
theorem dX12_would_11 : decode cX12_would 11 = .ok (.iload_n 3, 1) := by decide +kernel
theorem dX12_would_12 : decode cX12_would 12 = .ok (.invokestatic 135, 3) := by decide +kernel
theorem dX12_would_15 : decode cX12_would 15 = .ok (.ifCond .eq 13, 3) := by decide +kernel
theorem dX12_would_18 : decode cX12_would 18 = .ok (.iload 4, 2) := by decide +kernel
theorem dX12_would_20 : decode cX12_would 20 = .ok (.iconst 0, 1) := by decide +kernel
theorem dX12_would_21 : decode cX12_would 21 = .ok (.iconst 2, 1) := by decide +kernel
theorem dX12_would_22 : decode cX12_would 22 = .ok (.invokestatic 45, 3) := by decide +kernel
theorem dX12_would_25 : decode cX12_would 25 = .ok (.ifCond .ne 5, 3) := by decide +kernel
theorem dX12_would_28 : decode cX12_would 28 = .ok (.iconst (-1), 1) := by decide +kernel
theorem dX12_would_29 : decode cX12_would 29 = .ok (.ireturn, 1) := by decide +kernel
theorem dX12_would_30 : decode cX12_would 30 = .ok (.aload_n 0, 1) := by decide +kernel
theorem dX12_would_31 : decode cX12_would 31 = .ok (.getfield 7, 3) := by decide +kernel
theorem dX12_would_34 : decode cX12_would 34 = .ok (.sipush 173, 3) := by decide +kernel
theorem dX12_would_37 : decode cX12_would 37 = .ok (.iaload, 1) := by decide +kernel
theorem dX12_would_38 : decode cX12_would 38 = .ok (.ifCond .ne 6, 3) := by decide +kernel
theorem dX12_would_41 : decode cX12_would 41 = .ok (.bipush (-2), 2) := by decide +kernel
theorem dX12_would_43 : decode cX12_would 43 = .ok (.ireturn, 1) := by decide +kernel
theorem dX12_would_44 : decode cX12_would 44 = .ok (.aload_n 0, 1) := by decide +kernel
theorem dX12_would_45 : decode cX12_would 45 = .ok (.bipush 8, 2) := by decide +kernel
theorem dX12_would_47 : decode cX12_would 47 = .ok (.invokevirtual 243, 3) := by decide +kernel
theorem dX12_would_50 : decode cX12_would 50 = .ok (.aload_n 0, 1) := by decide +kernel
theorem dX12_would_51 : decode cX12_would 51 = .ok (.iload_n 2, 1) := by decide +kernel
theorem dX12_would_52 : decode cX12_would 52 = .ok (.iload_n 3, 1) := by decide +kernel
theorem dX12_would_53 : decode cX12_would 53 = .ok (.iload_n 1, 1) := by decide +kernel
theorem dX12_would_54 : decode cX12_would 54 = .ok (.invokevirtual 301, 3) := by decide +kernel
theorem dX12_would_57 : decode cX12_would 57 = .ok (.aload_n 0, 1) := by decide +kernel
theorem dX12_would_58 : decode cX12_would 58 = .ok (.iconst 0, 1) := by decide +kernel
theorem dX12_would_59 : decode cX12_would 59 = .ok (.invokevirtual 191, 3) := by decide +kernel
theorem dX12_would_62 : decode cX12_would 62 = .ok (.iload 4, 2) := by decide +kernel
theorem dX12_would_64 : decode cX12_would 64 = .ok (.ifCond .ne 11, 3) := by decide +kernel
theorem dX12_would_67 : decode cX12_would 67 = .ok (.aload_n 0, 1) := by decide +kernel
theorem dX12_would_68 : decode cX12_would 68 = .ok (.iconst 5, 1) := by decide +kernel
theorem dX12_would_69 : decode cX12_would 69 = .ok (.invokevirtual 292, 3) := by decide +kernel
theorem dX12_would_72 : decode cX12_would 72 = .ok (.goto 22, 3) := by decide +kernel
theorem dX12_would_75 : decode cX12_would 75 = .ok (.iload 4, 2) := by decide +kernel
theorem dX12_would_77 : decode cX12_would 77 = .ok (.iconst 1, 1) := by decide +kernel
theorem dX12_would_78 : decode cX12_would 78 = .ok (.if_icmp .ne 12, 3) := by decide +kernel
theorem dX12_would_81 : decode cX12_would 81 = .ok (.aload_n 0, 1) := by decide +kernel
theorem dX12_would_82 : decode cX12_would 82 = .ok (.bipush 6, 2) := by decide +kernel
theorem dX12_would_84 : decode cX12_would 84 = .ok (.invokevirtual 292, 3) := by decide +kernel
theorem dX12_would_87 : decode cX12_would 87 = .ok (.goto 7, 3) := by decide +kernel
theorem dX12_would_90 : decode cX12_would 90 = .ok (.aload_n 0, 1) := by decide +kernel
theorem dX12_would_91 : decode cX12_would 91 = .ok (.invokevirtual 304, 3) := by decide +kernel
theorem dX12_would_94 : decode cX12_would 94 = .ok (.istore 5, 2) := by decide +kernel
theorem dX12_would_96 : decode cX12_would 96 = .ok (.aload_n 0, 1) := by decide +kernel
theorem dX12_would_97 : decode cX12_would 97 = .ok (.bipush 8, 2) := by decide +kernel
theorem dX12_would_99 : decode cX12_would 99 = .ok (.invokevirtual 246, 3) := by decide +kernel
theorem dX12_would_102 : decode cX12_would 102 = .ok (.iload 5, 2) := by decide +kernel
theorem dX12_would_104 : decode cX12_would 104 = .ok (.ireturn, 1) := by decide +kernel
theorem dX12_rateFor_0 : decode cX12_rateFor 0 = .ok (.iload_n 1, 1) := by decide +kernel
theorem dX12_rateFor_1 : decode cX12_rateFor 1 = .ok (.iload_n 2, 1) := by decide +kernel
theorem dX12_rateFor_2 : decode cX12_rateFor 2 = .ok (.invokestatic 135, 3) := by decide +kernel
theorem dX12_rateFor_5 : decode cX12_rateFor 5 = .ok (.ifCond .eq 14, 3) := by decide +kernel
theorem dX12_rateFor_8 : decode cX12_rateFor 8 = .ok (.iload_n 3, 1) := by decide +kernel
theorem dX12_rateFor_9 : decode cX12_rateFor 9 = .ok (.iconst 0, 1) := by decide +kernel
theorem dX12_rateFor_10 : decode cX12_rateFor 10 = .ok (.sipush 1200, 3) := by decide +kernel
theorem dX12_rateFor_13 : decode cX12_rateFor 13 = .ok (.invokestatic 45, 3) := by decide +kernel
theorem dX12_rateFor_16 : decode cX12_rateFor 16 = .ok (.ifCond .ne 5, 3) := by decide +kernel
theorem dX12_rateFor_19 : decode cX12_rateFor 19 = .ok (.iconst (-1), 1) := by decide +kernel
theorem dX12_rateFor_20 : decode cX12_rateFor 20 = .ok (.ireturn, 1) := by decide +kernel
theorem dX12_rateFor_21 : decode cX12_rateFor 21 = .ok (.aload_n 0, 1) := by decide +kernel
theorem dX12_rateFor_22 : decode cX12_rateFor 22 = .ok (.getfield 7, 3) := by decide +kernel
theorem dX12_rateFor_25 : decode cX12_rateFor 25 = .ok (.sipush 173, 3) := by decide +kernel
theorem dX12_rateFor_28 : decode cX12_rateFor 28 = .ok (.iaload, 1) := by decide +kernel
theorem dX12_rateFor_29 : decode cX12_rateFor 29 = .ok (.ifCond .ne 6, 3) := by decide +kernel
theorem dX12_rateFor_32 : decode cX12_rateFor 32 = .ok (.bipush (-2), 2) := by decide +kernel
theorem dX12_rateFor_34 : decode cX12_rateFor 34 = .ok (.ireturn, 1) := by decide +kernel
theorem dX12_rateFor_35 : decode cX12_rateFor 35 = .ok (.iconst 0, 1) := by decide +kernel
theorem dX12_rateFor_36 : decode cX12_rateFor 36 = .ok (.istore 4, 2) := by decide +kernel
theorem dX12_rateFor_38 : decode cX12_rateFor 38 = .ok (.iload 4, 2) := by decide +kernel
theorem dX12_rateFor_40 : decode cX12_rateFor 40 = .ok (.bipush 12, 2) := by decide +kernel
theorem dX12_rateFor_42 : decode cX12_rateFor 42 = .ok (.if_icmp .gt 49, 3) := by decide +kernel
theorem dX12_rateFor_45 : decode cX12_rateFor 45 = .ok (.aload_n 0, 1) := by decide +kernel
theorem dX12_rateFor_46 : decode cX12_rateFor 46 = .ok (.bipush 8, 2) := by decide +kernel
theorem dX12_rateFor_48 : decode cX12_rateFor 48 = .ok (.invokevirtual 243, 3) := by decide +kernel
theorem dX12_rateFor_51 : decode cX12_rateFor 51 = .ok (.aload_n 0, 1) := by decide +kernel
theorem dX12_rateFor_52 : decode cX12_rateFor 52 = .ok (.iload_n 1, 1) := by decide +kernel
theorem dX12_rateFor_53 : decode cX12_rateFor 53 = .ok (.iload_n 2, 1) := by decide +kernel
theorem dX12_rateFor_54 : decode cX12_rateFor 54 = .ok (.iload 4, 2) := by decide +kernel
theorem dX12_rateFor_56 : decode cX12_rateFor 56 = .ok (.invokevirtual 301, 3) := by decide +kernel
theorem dX12_rateFor_59 : decode cX12_rateFor 59 = .ok (.aload_n 0, 1) := by decide +kernel
theorem dX12_rateFor_60 : decode cX12_rateFor 60 = .ok (.iconst 0, 1) := by decide +kernel
theorem dX12_rateFor_61 : decode cX12_rateFor 61 = .ok (.invokevirtual 191, 3) := by decide +kernel
theorem dX12_rateFor_64 : decode cX12_rateFor 64 = .ok (.aload_n 0, 1) := by decide +kernel
theorem dX12_rateFor_65 : decode cX12_rateFor 65 = .ok (.invokevirtual 295, 3) := by decide +kernel
theorem dX12_rateFor_68 : decode cX12_rateFor 68 = .ok (.istore 5, 2) := by decide +kernel
theorem dX12_rateFor_70 : decode cX12_rateFor 70 = .ok (.aload_n 0, 1) := by decide +kernel
theorem dX12_rateFor_71 : decode cX12_rateFor 71 = .ok (.bipush 8, 2) := by decide +kernel
theorem dX12_rateFor_73 : decode cX12_rateFor 73 = .ok (.invokevirtual 246, 3) := by decide +kernel
theorem dX12_rateFor_76 : decode cX12_rateFor 76 = .ok (.iload 5, 2) := by decide +kernel
theorem dX12_rateFor_78 : decode cX12_rateFor 78 = .ok (.iload_n 3, 1) := by decide +kernel
theorem dX12_rateFor_79 : decode cX12_rateFor 79 = .ok (.if_icmp .gt 6, 3) := by decide +kernel
theorem dX12_rateFor_82 : decode cX12_rateFor 82 = .ok (.iload 4, 2) := by decide +kernel
theorem dX12_rateFor_84 : decode cX12_rateFor 84 = .ok (.ireturn, 1) := by decide +kernel
theorem dX12_rateFor_85 : decode cX12_rateFor 85 = .ok (.iinc 4 1, 3) := by decide +kernel
theorem dX12_rateFor_88 : decode cX12_rateFor 88 = .ok (.goto (-50), 3) := by decide +kernel
theorem dX12_rateFor_91 : decode cX12_rateFor 91 = .ok (.bipush (-2), 2) := by decide +kernel
theorem dX12_rateFor_93 : decode cX12_rateFor 93 = .ok (.ireturn, 1) := by decide +kernel
theorem dX12_ifCut_0 : decode cX12_ifCut 0 = .ok (.iload_n 1, 1) := by decide +kernel
theorem dX12_ifCut_1 : decode cX12_ifCut 1 = .ok (.aload_n 0, 1) := by decide +kernel
theorem dX12_ifCut_2 : decode cX12_ifCut 2 = .ok (.getfield 7, 3) := by decide +kernel
theorem dX12_ifCut_5 : decode cX12_ifCut 5 = .ok (.sipush 172, 3) := by decide +kernel
theorem dX12_ifCut_8 : decode cX12_ifCut 8 = .ok (.iaload, 1) := by decide +kernel
theorem dX12_ifCut_9 : decode cX12_ifCut 9 = .ok (.sipush 719, 3) := by decide +kernel
theorem dX12_ifCut_12 : decode cX12_ifCut 12 = .ok (.invokestatic 45, 3) := by decide +kernel
theorem dX12_ifCut_15 : decode cX12_ifCut 15 = .ok (.ifCond .eq 13, 3) := by decide +kernel
theorem dX12_ifCut_18 : decode cX12_ifCut 18 = .ok (.iload_n 2, 1) := by decide +kernel
theorem dX12_ifCut_19 : decode cX12_ifCut 19 = .ok (.iconst 0, 1) := by decide +kernel
theorem dX12_ifCut_20 : decode cX12_ifCut 20 = .ok (.bipush 12, 2) := by decide +kernel
theorem dX12_ifCut_22 : decode cX12_ifCut 22 = .ok (.invokestatic 45, 3) := by decide +kernel
theorem dX12_ifCut_25 : decode cX12_ifCut 25 = .ok (.ifCond .ne 5, 3) := by decide +kernel
theorem dX12_ifCut_28 : decode cX12_ifCut 28 = .ok (.iconst (-1), 1) := by decide +kernel
theorem dX12_ifCut_29 : decode cX12_ifCut 29 = .ok (.ireturn, 1) := by decide +kernel
theorem dX12_ifCut_30 : decode cX12_ifCut 30 = .ok (.aload_n 0, 1) := by decide +kernel
theorem dX12_ifCut_31 : decode cX12_ifCut 31 = .ok (.getfield 7, 3) := by decide +kernel
theorem dX12_ifCut_34 : decode cX12_ifCut 34 = .ok (.sipush 174, 3) := by decide +kernel
theorem dX12_ifCut_37 : decode cX12_ifCut 37 = .ok (.iaload, 1) := by decide +kernel
theorem dX12_ifCut_38 : decode cX12_ifCut 38 = .ok (.ifCond .ne 6, 3) := by decide +kernel
theorem dX12_ifCut_41 : decode cX12_ifCut 41 = .ok (.bipush (-2), 2) := by decide +kernel
theorem dX12_ifCut_43 : decode cX12_ifCut 43 = .ok (.ireturn, 1) := by decide +kernel
theorem dX12_ifCut_44 : decode cX12_ifCut 44 = .ok (.aload_n 0, 1) := by decide +kernel
theorem dX12_ifCut_45 : decode cX12_ifCut 45 = .ok (.bipush 8, 2) := by decide +kernel
theorem dX12_ifCut_47 : decode cX12_ifCut 47 = .ok (.invokevirtual 243, 3) := by decide +kernel
theorem dX12_ifCut_50 : decode cX12_ifCut 50 = .ok (.aload_n 0, 1) := by decide +kernel
theorem dX12_ifCut_51 : decode cX12_ifCut 51 = .ok (.getfield 7, 3) := by decide +kernel
theorem dX12_ifCut_54 : decode cX12_ifCut 54 = .ok (.sipush 172, 3) := by decide +kernel
theorem dX12_ifCut_57 : decode cX12_ifCut 57 = .ok (.iload_n 1, 1) := by decide +kernel
theorem dX12_ifCut_58 : decode cX12_ifCut 58 = .ok (.iastore, 1) := by decide +kernel
theorem dX12_ifCut_59 : decode cX12_ifCut 59 = .ok (.aload_n 0, 1) := by decide +kernel
theorem dX12_ifCut_60 : decode cX12_ifCut 60 = .ok (.iload_n 1, 1) := by decide +kernel
theorem dX12_ifCut_61 : decode cX12_ifCut 61 = .ok (.bipush 60, 2) := by decide +kernel
theorem dX12_ifCut_63 : decode cX12_ifCut 63 = .ok (.idiv, 1) := by decide +kernel
theorem dX12_ifCut_64 : decode cX12_ifCut 64 = .ok (.bipush 11, 2) := by decide +kernel
theorem dX12_ifCut_66 : decode cX12_ifCut 66 = .ok (.iload_n 2, 1) := by decide +kernel
theorem dX12_ifCut_67 : decode cX12_ifCut 67 = .ok (.invokevirtual 301, 3) := by decide +kernel
theorem dX12_ifCut_70 : decode cX12_ifCut 70 = .ok (.aload_n 0, 1) := by decide +kernel
theorem dX12_ifCut_71 : decode cX12_ifCut 71 = .ok (.invokevirtual 197, 3) := by decide +kernel
theorem dX12_ifCut_74 : decode cX12_ifCut 74 = .ok (.aload_n 0, 1) := by decide +kernel
theorem dX12_ifCut_75 : decode cX12_ifCut 75 = .ok (.bipush 6, 2) := by decide +kernel
theorem dX12_ifCut_77 : decode cX12_ifCut 77 = .ok (.invokevirtual 292, 3) := by decide +kernel
theorem dX12_ifCut_80 : decode cX12_ifCut 80 = .ok (.istore_n 3, 1) := by decide +kernel
theorem dX12_ifCut_81 : decode cX12_ifCut 81 = .ok (.aload_n 0, 1) := by decide +kernel
theorem dX12_ifCut_82 : decode cX12_ifCut 82 = .ok (.bipush 8, 2) := by decide +kernel
theorem dX12_ifCut_84 : decode cX12_ifCut 84 = .ok (.invokevirtual 246, 3) := by decide +kernel
theorem dX12_ifCut_87 : decode cX12_ifCut 87 = .ok (.iload_n 3, 1) := by decide +kernel
theorem dX12_ifCut_88 : decode cX12_ifCut 88 = .ok (.ireturn, 1) := by decide +kernel
theorem dX12_count_0 : decode cX12_count 0 = .ok (.iconst 0, 1) := by decide +kernel
theorem dX12_count_1 : decode cX12_count 1 = .ok (.istore_n 2, 1) := by decide +kernel
theorem dX12_count_2 : decode cX12_count 2 = .ok (.iload_n 1, 1) := by decide +kernel
theorem dX12_count_3 : decode cX12_count 3 = .ok (.bipush 20, 2) := by decide +kernel
theorem dX12_count_5 : decode cX12_count 5 = .ok (.bipush 31, 2) := by decide +kernel
theorem dX12_count_7 : decode cX12_count 7 = .ok (.invokestatic 45, 3) := by decide +kernel
theorem dX12_count_10 : decode cX12_count 10 = .ok (.ifCond .eq 17, 3) := by decide +kernel
theorem dX12_count_13 : decode cX12_count 13 = .ok (.aload_n 0, 1) := by decide +kernel
theorem dX12_count_14 : decode cX12_count 14 = .ok (.getfield 7, 3) := by decide +kernel
theorem dX12_count_17 : decode cX12_count 17 = .ok (.sipush 160, 3) := by decide +kernel
theorem dX12_count_20 : decode cX12_count 20 = .ok (.iload_n 1, 1) := by decide +kernel
theorem dX12_count_21 : decode cX12_count 21 = .ok (.iadd, 1) := by decide +kernel
theorem dX12_count_22 : decode cX12_count 22 = .ok (.bipush 20, 2) := by decide +kernel
theorem dX12_count_24 : decode cX12_count 24 = .ok (.isub, 1) := by decide +kernel
theorem dX12_count_25 : decode cX12_count 25 = .ok (.iaload, 1) := by decide +kernel
theorem dX12_count_26 : decode cX12_count 26 = .ok (.ireturn, 1) := by decide +kernel
theorem dX12_count_27 : decode cX12_count 27 = .ok (.iload_n 1, 1) := by decide +kernel
theorem dX12_count_28 : decode cX12_count 28 = .ok (.tableswitch 243 0 12 #[68, 77, 86, 95, 101, 108, 132, 155, 187, 192, 197, 229, 238], 68) := by decide +kernel
theorem dX12_count_96 : decode cX12_count 96 = .ok (.aload_n 0, 1) := by decide +kernel
theorem dX12_count_97 : decode cX12_count 97 = .ok (.getfield 7, 3) := by decide +kernel
theorem dX12_count_100 : decode cX12_count 100 = .ok (.sipush 173, 3) := by decide +kernel
theorem dX12_count_103 : decode cX12_count 103 = .ok (.iaload, 1) := by decide +kernel
theorem dX12_count_104 : decode cX12_count 104 = .ok (.ireturn, 1) := by decide +kernel
theorem dX12_count_105 : decode cX12_count 105 = .ok (.aload_n 0, 1) := by decide +kernel
theorem dX12_count_106 : decode cX12_count 106 = .ok (.getfield 7, 3) := by decide +kernel
theorem dX12_count_109 : decode cX12_count 109 = .ok (.sipush 172, 3) := by decide +kernel
theorem dX12_count_112 : decode cX12_count 112 = .ok (.iaload, 1) := by decide +kernel
theorem dX12_count_113 : decode cX12_count 113 = .ok (.ireturn, 1) := by decide +kernel
theorem dX12_count_114 : decode cX12_count 114 = .ok (.aload_n 0, 1) := by decide +kernel
theorem dX12_count_115 : decode cX12_count 115 = .ok (.getfield 7, 3) := by decide +kernel
theorem dX12_count_118 : decode cX12_count 118 = .ok (.sipush 174, 3) := by decide +kernel
theorem dX12_count_121 : decode cX12_count 121 = .ok (.iaload, 1) := by decide +kernel
theorem dX12_count_122 : decode cX12_count 122 = .ok (.ireturn, 1) := by decide +kernel
theorem dX12_count_123 : decode cX12_count 123 = .ok (.aload_n 0, 1) := by decide +kernel
theorem dX12_count_124 : decode cX12_count 124 = .ok (.iconst 5, 1) := by decide +kernel
theorem dX12_count_125 : decode cX12_count 125 = .ok (.invokevirtual 292, 3) := by decide +kernel
theorem dX12_count_128 : decode cX12_count 128 = .ok (.ireturn, 1) := by decide +kernel
theorem dX12_count_129 : decode cX12_count 129 = .ok (.aload_n 0, 1) := by decide +kernel
theorem dX12_count_130 : decode cX12_count 130 = .ok (.bipush 6, 2) := by decide +kernel
theorem dX12_count_132 : decode cX12_count 132 = .ok (.invokevirtual 292, 3) := by decide +kernel
theorem dX12_count_135 : decode cX12_count 135 = .ok (.ireturn, 1) := by decide +kernel
theorem dX12_count_136 : decode cX12_count 136 = .ok (.iconst 0, 1) := by decide +kernel
theorem dX12_count_137 : decode cX12_count 137 = .ok (.istore_n 3, 1) := by decide +kernel
theorem dX12_count_138 : decode cX12_count 138 = .ok (.iload_n 3, 1) := by decide +kernel
theorem dX12_count_139 : decode cX12_count 139 = .ok (.iconst 5, 1) := by decide +kernel
theorem dX12_count_140 : decode cX12_count 140 = .ok (.if_icmp .ge 18, 3) := by decide +kernel
theorem dX12_count_143 : decode cX12_count 143 = .ok (.iload_n 2, 1) := by decide +kernel
theorem dX12_count_144 : decode cX12_count 144 = .ok (.aload_n 0, 1) := by decide +kernel
theorem dX12_count_145 : decode cX12_count 145 = .ok (.iload_n 3, 1) := by decide +kernel
theorem dX12_count_146 : decode cX12_count 146 = .ok (.iconst 1, 1) := by decide +kernel
theorem dX12_count_147 : decode cX12_count 147 = .ok (.invokevirtual 258, 3) := by decide +kernel
theorem dX12_count_150 : decode cX12_count 150 = .ok (.iadd, 1) := by decide +kernel
theorem dX12_count_151 : decode cX12_count 151 = .ok (.istore_n 2, 1) := by decide +kernel
theorem dX12_count_152 : decode cX12_count 152 = .ok (.iinc 3 1, 3) := by decide +kernel
theorem dX12_count_155 : decode cX12_count 155 = .ok (.goto (-17), 3) := by decide +kernel
theorem dX12_count_158 : decode cX12_count 158 = .ok (.iload_n 2, 1) := by decide +kernel
theorem dX12_count_159 : decode cX12_count 159 = .ok (.ireturn, 1) := by decide +kernel
theorem dX12_count_160 : decode cX12_count 160 = .ok (.iconst 0, 1) := by decide +kernel
theorem dX12_count_161 : decode cX12_count 161 = .ok (.istore_n 3, 1) := by decide +kernel
theorem dX12_count_162 : decode cX12_count 162 = .ok (.iload_n 3, 1) := by decide +kernel
theorem dX12_count_163 : decode cX12_count 163 = .ok (.iconst 5, 1) := by decide +kernel
theorem dX12_count_164 : decode cX12_count 164 = .ok (.if_icmp .ge 17, 3) := by decide +kernel
theorem dX12_count_167 : decode cX12_count 167 = .ok (.iload_n 2, 1) := by decide +kernel
theorem dX12_count_168 : decode cX12_count 168 = .ok (.aload_n 0, 1) := by decide +kernel
theorem dX12_count_169 : decode cX12_count 169 = .ok (.iload_n 3, 1) := by decide +kernel
theorem dX12_count_170 : decode cX12_count 170 = .ok (.invokevirtual 255, 3) := by decide +kernel
theorem dX12_count_173 : decode cX12_count 173 = .ok (.iadd, 1) := by decide +kernel
theorem dX12_count_174 : decode cX12_count 174 = .ok (.istore_n 2, 1) := by decide +kernel
theorem dX12_count_175 : decode cX12_count 175 = .ok (.iinc 3 1, 3) := by decide +kernel
theorem dX12_count_178 : decode cX12_count 178 = .ok (.goto (-16), 3) := by decide +kernel
theorem dX12_count_181 : decode cX12_count 181 = .ok (.iload_n 2, 1) := by decide +kernel
theorem dX12_count_182 : decode cX12_count 182 = .ok (.ireturn, 1) := by decide +kernel
theorem dX12_count_183 : decode cX12_count 183 = .ok (.iconst 0, 1) := by decide +kernel
theorem dX12_count_184 : decode cX12_count 184 = .ok (.istore_n 3, 1) := by decide +kernel
theorem dX12_count_185 : decode cX12_count 185 = .ok (.iload_n 3, 1) := by decide +kernel
theorem dX12_count_186 : decode cX12_count 186 = .ok (.bipush 8, 2) := by decide +kernel
theorem dX12_count_188 : decode cX12_count 188 = .ok (.if_icmp .ge 25, 3) := by decide +kernel
theorem dX12_count_191 : decode cX12_count 191 = .ok (.iload_n 2, 1) := by decide +kernel
theorem dX12_count_192 : decode cX12_count 192 = .ok (.aload_n 0, 1) := by decide +kernel
theorem dX12_count_193 : decode cX12_count 193 = .ok (.iload_n 3, 1) := by decide +kernel
theorem dX12_count_194 : decode cX12_count 194 = .ok (.invokevirtual 222, 3) := by decide +kernel
theorem dX12_count_197 : decode cX12_count 197 = .ok (.ifCond .eq 7, 3) := by decide +kernel
theorem dX12_count_200 : decode cX12_count 200 = .ok (.iconst 1, 1) := by decide +kernel
theorem dX12_count_201 : decode cX12_count 201 = .ok (.goto 4, 3) := by decide +kernel
theorem dX12_count_204 : decode cX12_count 204 = .ok (.iconst 0, 1) := by decide +kernel
theorem dX12_count_205 : decode cX12_count 205 = .ok (.iadd, 1) := by decide +kernel
theorem dX12_count_206 : decode cX12_count 206 = .ok (.istore_n 2, 1) := by decide +kernel
theorem dX12_count_207 : decode cX12_count 207 = .ok (.iinc 3 1, 3) := by decide +kernel
theorem dX12_count_210 : decode cX12_count 210 = .ok (.goto (-25), 3) := by decide +kernel
theorem dX12_count_213 : decode cX12_count 213 = .ok (.iload_n 2, 1) := by decide +kernel
theorem dX12_count_214 : decode cX12_count 214 = .ok (.ireturn, 1) := by decide +kernel
theorem dX12_count_215 : decode cX12_count 215 = .ok (.aload_n 0, 1) := by decide +kernel
theorem dX12_count_216 : decode cX12_count 216 = .ok (.getfield 49, 3) := by decide +kernel
theorem dX12_count_219 : decode cX12_count 219 = .ok (.ireturn, 1) := by decide +kernel
theorem dX12_count_220 : decode cX12_count 220 = .ok (.aload_n 0, 1) := by decide +kernel
theorem dX12_count_221 : decode cX12_count 221 = .ok (.getfield 307, 3) := by decide +kernel
theorem dX12_count_224 : decode cX12_count 224 = .ok (.ireturn, 1) := by decide +kernel
theorem dX12_count_225 : decode cX12_count 225 = .ok (.iconst 0, 1) := by decide +kernel
theorem dX12_count_226 : decode cX12_count 226 = .ok (.istore_n 3, 1) := by decide +kernel
theorem dX12_count_227 : decode cX12_count 227 = .ok (.iload_n 3, 1) := by decide +kernel
theorem dX12_count_228 : decode cX12_count 228 = .ok (.bipush 12, 2) := by decide +kernel
theorem dX12_count_230 : decode cX12_count 230 = .ok (.if_icmp .ge 22, 3) := by decide +kernel
theorem dX12_count_233 : decode cX12_count 233 = .ok (.iload_n 2, 1) := by decide +kernel
theorem dX12_count_234 : decode cX12_count 234 = .ok (.aload_n 0, 1) := by decide +kernel
theorem dX12_count_235 : decode cX12_count 235 = .ok (.getfield 7, 3) := by decide +kernel
theorem dX12_count_238 : decode cX12_count 238 = .ok (.sipush 160, 3) := by decide +kernel
theorem dX12_count_241 : decode cX12_count 241 = .ok (.iload_n 3, 1) := by decide +kernel
theorem dX12_count_242 : decode cX12_count 242 = .ok (.iadd, 1) := by decide +kernel
theorem dX12_count_243 : decode cX12_count 243 = .ok (.iaload, 1) := by decide +kernel
theorem dX12_count_244 : decode cX12_count 244 = .ok (.iadd, 1) := by decide +kernel
theorem dX12_count_245 : decode cX12_count 245 = .ok (.istore_n 2, 1) := by decide +kernel
theorem dX12_count_246 : decode cX12_count 246 = .ok (.iinc 3 1, 3) := by decide +kernel
theorem dX12_count_249 : decode cX12_count 249 = .ok (.goto (-22), 3) := by decide +kernel
theorem dX12_count_252 : decode cX12_count 252 = .ok (.iload_n 2, 1) := by decide +kernel
theorem dX12_count_253 : decode cX12_count 253 = .ok (.bipush 96, 2) := by decide +kernel
theorem dX12_count_255 : decode cX12_count 255 = .ok (.iadd, 1) := by decide +kernel
theorem dX12_count_256 : decode cX12_count 256 = .ok (.ireturn, 1) := by decide +kernel
theorem dX12_count_257 : decode cX12_count 257 = .ok (.aload_n 0, 1) := by decide +kernel
theorem dX12_count_258 : decode cX12_count 258 = .ok (.getfield 7, 3) := by decide +kernel
theorem dX12_count_261 : decode cX12_count 261 = .ok (.sipush 175, 3) := by decide +kernel
theorem dX12_count_264 : decode cX12_count 264 = .ok (.iaload, 1) := by decide +kernel
theorem dX12_count_265 : decode cX12_count 265 = .ok (.ireturn, 1) := by decide +kernel
theorem dX12_count_266 : decode cX12_count 266 = .ok (.aload_n 0, 1) := by decide +kernel
theorem dX12_count_267 : decode cX12_count 267 = .ok (.invokevirtual 289, 3) := by decide +kernel
theorem dX12_count_270 : decode cX12_count 270 = .ok (.ireturn, 1) := by decide +kernel
theorem dX12_count_271 : decode cX12_count 271 = .ok (.iconst (-1), 1) := by decide +kernel
theorem dX12_count_272 : decode cX12_count 272 = .ok (.ireturn, 1) := by decide +kernel
theorem dX12_keep_0 : decode cX12_keep 0 = .ok (.aload_n 0, 1) := by decide +kernel
theorem dX12_keep_1 : decode cX12_keep 1 = .ok (.getfield 307, 3) := by decide +kernel
theorem dX12_keep_4 : decode cX12_keep 4 = .ok (.bipush 8, 2) := by decide +kernel
theorem dX12_keep_6 : decode cX12_keep 6 = .ok (.if_icmp .ne 5, 3) := by decide +kernel
theorem dX12_keep_9 : decode cX12_keep 9 = .ok (.iconst (-1), 1) := by decide +kernel
theorem dX12_keep_10 : decode cX12_keep 10 = .ok (.ireturn, 1) := by decide +kernel
theorem dX12_keep_11 : decode cX12_keep 11 = .ok (.aload_n 0, 1) := by decide +kernel
theorem dX12_keep_12 : decode cX12_keep 12 = .ok (.aload_n 0, 1) := by decide +kernel
theorem dX12_keep_13 : decode cX12_keep 13 = .ok (.getfield 307, 3) := by decide +kernel
theorem dX12_keep_16 : decode cX12_keep 16 = .ok (.invokevirtual 243, 3) := by decide +kernel
theorem dX12_keep_19 : decode cX12_keep 19 = .ok (.aload_n 0, 1) := by decide +kernel
theorem dX12_keep_20 : decode cX12_keep 20 = .ok (.aload_n 0, 1) := by decide +kernel
theorem dX12_keep_21 : decode cX12_keep 21 = .ok (.getfield 307, 3) := by decide +kernel
theorem dX12_keep_24 : decode cX12_keep 24 = .ok (.iconst 1, 1) := by decide +kernel
theorem dX12_keep_25 : decode cX12_keep 25 = .ok (.iadd, 1) := by decide +kernel
theorem dX12_keep_26 : decode cX12_keep 26 = .ok (.putfield 307, 3) := by decide +kernel
theorem dX12_keep_29 : decode cX12_keep 29 = .ok (.aload_n 0, 1) := by decide +kernel
theorem dX12_keep_30 : decode cX12_keep 30 = .ok (.getfield 307, 3) := by decide +kernel
theorem dX12_keep_33 : decode cX12_keep 33 = .ok (.ireturn, 1) := by decide +kernel
theorem dX12_undo_0 : decode cX12_undo 0 = .ok (.aload_n 0, 1) := by decide +kernel
theorem dX12_undo_1 : decode cX12_undo 1 = .ok (.getfield 307, 3) := by decide +kernel
theorem dX12_undo_4 : decode cX12_undo 4 = .ok (.ifCond .ne 5, 3) := by decide +kernel
theorem dX12_undo_7 : decode cX12_undo 7 = .ok (.iconst (-1), 1) := by decide +kernel
theorem dX12_undo_8 : decode cX12_undo 8 = .ok (.ireturn, 1) := by decide +kernel
theorem dX12_undo_9 : decode cX12_undo 9 = .ok (.aload_n 0, 1) := by decide +kernel
theorem dX12_undo_10 : decode cX12_undo 10 = .ok (.aload_n 0, 1) := by decide +kernel
theorem dX12_undo_11 : decode cX12_undo 11 = .ok (.getfield 307, 3) := by decide +kernel
theorem dX12_undo_14 : decode cX12_undo 14 = .ok (.iconst 1, 1) := by decide +kernel
theorem dX12_undo_15 : decode cX12_undo 15 = .ok (.isub, 1) := by decide +kernel
theorem dX12_undo_16 : decode cX12_undo 16 = .ok (.putfield 307, 3) := by decide +kernel
theorem dX12_undo_19 : decode cX12_undo 19 = .ok (.aload_n 0, 1) := by decide +kernel
theorem dX12_undo_20 : decode cX12_undo 20 = .ok (.aload_n 0, 1) := by decide +kernel
theorem dX12_undo_21 : decode cX12_undo 21 = .ok (.getfield 307, 3) := by decide +kernel
theorem dX12_undo_24 : decode cX12_undo 24 = .ok (.invokevirtual 246, 3) := by decide +kernel
theorem dX12_undo_27 : decode cX12_undo 27 = .ok (.aload_n 0, 1) := by decide +kernel
theorem dX12_undo_28 : decode cX12_undo 28 = .ok (.getfield 307, 3) := by decide +kernel
theorem dX12_undo_31 : decode cX12_undo 31 = .ok (.ireturn, 1) := by decide +kernel
