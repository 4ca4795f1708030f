theorem dX11_init_0 : decode cX11_init 0 = .ok (.aload_n 0, 1) := by decide +kernel
theorem dX11_init_1 : decode cX11_init 1 = .ok (.invokespecial 1, 3) := by decide +kernel
theorem dX11_init_4 : decode cX11_init 4 = .ok (.aload_n 0, 1) := by decide +kernel
theorem dX11_init_5 : decode cX11_init 5 = .ok (.new 7, 3) := by decide +kernel
theorem dX11_init_8 : decode cX11_init 8 = .ok (.dup, 1) := by decide +kernel
theorem dX11_init_9 : decode cX11_init 9 = .ok (.invokespecial 9, 3) := by decide +kernel
theorem dX11_init_12 : decode cX11_init 12 = .ok (.putfield 10, 3) := by decide +kernel
theorem dX11_init_15 : decode cX11_init 15 = .ok (.aload_n 0, 1) := by decide +kernel
theorem dX11_init_16 : decode cX11_init 16 = .ok (.new 7, 3) := by decide +kernel
theorem dX11_init_19 : decode cX11_init 19 = .ok (.dup, 1) := by decide +kernel
theorem dX11_init_20 : decode cX11_init 20 = .ok (.invokespecial 9, 3) := by decide +kernel
theorem dX11_init_23 : decode cX11_init 23 = .ok (.putfield 16, 3) := by decide +kernel
theorem dX11_init_26 : decode cX11_init 26 = .ok (.aload_n 0, 1) := by decide +kernel
theorem dX11_init_27 : decode cX11_init 27 = .ok (.new 19, 3) := by decide +kernel
theorem dX11_init_30 : decode cX11_init 30 = .ok (.dup, 1) := by decide +kernel
theorem dX11_init_31 : decode cX11_init 31 = .ok (.invokespecial 21, 3) := by decide +kernel
theorem dX11_init_34 : decode cX11_init 34 = .ok (.putfield 22, 3) := by decide +kernel
theorem dX11_init_37 : decode cX11_init 37 = .ok (.aload_n 0, 1) := by decide +kernel
theorem dX11_init_38 : decode cX11_init 38 = .ok (.new 26, 3) := by decide +kernel
theorem dX11_init_41 : decode cX11_init 41 = .ok (.dup, 1) := by decide +kernel
theorem dX11_init_42 : decode cX11_init 42 = .ok (.invokespecial 28, 3) := by decide +kernel
theorem dX11_init_45 : decode cX11_init 45 = .ok (.putfield 29, 3) := by decide +kernel
theorem dX11_init_48 : decode cX11_init 48 = .ok (.aload_n 0, 1) := by decide +kernel
theorem dX11_init_49 : decode cX11_init 49 = .ok (.new 33, 3) := by decide +kernel
theorem dX11_init_52 : decode cX11_init 52 = .ok (.dup, 1) := by decide +kernel
theorem dX11_init_53 : decode cX11_init 53 = .ok (.invokespecial 35, 3) := by decide +kernel
theorem dX11_init_56 : decode cX11_init 56 = .ok (.putfield 36, 3) := by decide +kernel
theorem dX11_init_59 : decode cX11_init 59 = .ok (.aload_n 0, 1) := by decide +kernel
theorem dX11_init_60 : decode cX11_init 60 = .ok (.new 40, 3) := by decide +kernel
theorem dX11_init_63 : decode cX11_init 63 = .ok (.dup, 1) := by decide +kernel
theorem dX11_init_64 : decode cX11_init 64 = .ok (.invokespecial 42, 3) := by decide +kernel
theorem dX11_init_67 : decode cX11_init 67 = .ok (.putfield 43, 3) := by decide +kernel
theorem dX11_init_70 : decode cX11_init 70 = .ok (.aload_n 0, 1) := by decide +kernel
theorem dX11_init_71 : decode cX11_init 71 = .ok (.new 47, 3) := by decide +kernel
theorem dX11_init_74 : decode cX11_init 74 = .ok (.dup, 1) := by decide +kernel
theorem dX11_init_75 : decode cX11_init 75 = .ok (.invokespecial 49, 3) := by decide +kernel
theorem dX11_init_78 : decode cX11_init 78 = .ok (.putfield 50, 3) := by decide +kernel
theorem dX11_init_81 : decode cX11_init 81 = .ok (.aload_n 0, 1) := by decide +kernel
theorem dX11_init_82 : decode cX11_init 82 = .ok (.new 54, 3) := by decide +kernel
theorem dX11_init_85 : decode cX11_init 85 = .ok (.dup, 1) := by decide +kernel
theorem dX11_init_86 : decode cX11_init 86 = .ok (.invokespecial 56, 3) := by decide +kernel
theorem dX11_init_89 : decode cX11_init 89 = .ok (.putfield 57, 3) := by decide +kernel
theorem dX11_init_92 : decode cX11_init 92 = .ok (.aload_n 0, 1) := by decide +kernel
theorem dX11_init_93 : decode cX11_init 93 = .ok (.new 54, 3) := by decide +kernel
theorem dX11_init_96 : decode cX11_init 96 = .ok (.dup, 1) := by decide +kernel
theorem dX11_init_97 : decode cX11_init 97 = .ok (.invokespecial 56, 3) := by decide +kernel
theorem dX11_init_100 : decode cX11_init 100 = .ok (.putfield 61, 3) := by decide +kernel
theorem dX11_init_103 : decode cX11_init 103 = .ok (.aload_n 0, 1) := by decide +kernel
theorem dX11_init_104 : decode cX11_init 104 = .ok (.bipush 8, 2) := by decide +kernel
theorem dX11_init_106 : decode cX11_init 106 = .ok (.anewarray 54, 3) := by decide +kernel
theorem dX11_init_109 : decode cX11_init 109 = .ok (.putfield 64, 3) := by decide +kernel
theorem dX11_init_112 : decode cX11_init 112 = .ok (.aload_n 0, 1) := by decide +kernel
theorem dX11_init_113 : decode cX11_init 113 = .ok (.iconst 0, 1) := by decide +kernel
theorem dX11_init_114 : decode cX11_init 114 = .ok (.putfield 68, 3) := by decide +kernel
theorem dX11_init_117 : decode cX11_init 117 = .ok (.return_, 1) := by decide +kernel
theorem dX11_feed_0 : decode cX11_feed 0 = .ok (.aload_n 0, 1) := by decide +kernel
theorem dX11_feed_1 : decode cX11_feed 1 = .ok (.getfield 10, 3) := by decide +kernel
theorem dX11_feed_4 : decode cX11_feed 4 = .ok (.getfield 72, 3) := by decide +kernel
theorem dX11_feed_7 : decode cX11_feed 7 = .ok (.bipush 20, 2) := by decide +kernel
theorem dX11_feed_9 : decode cX11_feed 9 = .ok (.iadd, 1) := by decide +kernel
theorem dX11_feed_10 : decode cX11_feed 10 = .ok (.sipush 320, 3) := by decide +kernel
theorem dX11_feed_13 : decode cX11_feed 13 = .ok (.if_icmp .le 5, 3) := by decide +kernel
theorem dX11_feed_16 : decode cX11_feed 16 = .ok (.iconst (-1), 1) := by decide +kernel
theorem dX11_feed_17 : decode cX11_feed 17 = .ok (.ireturn, 1) := by decide +kernel
theorem dX11_feed_18 : decode cX11_feed 18 = .ok (.aload_n 0, 1) := by decide +kernel
theorem dX11_feed_19 : decode cX11_feed 19 = .ok (.getfield 10, 3) := by decide +kernel
theorem dX11_feed_22 : decode cX11_feed 22 = .ok (.iload_n 1, 1) := by decide +kernel
theorem dX11_feed_23 : decode cX11_feed 23 = .ok (.invokevirtual 75, 3) := by decide +kernel
theorem dX11_feed_26 : decode cX11_feed 26 = .ok (.aload_n 0, 1) := by decide +kernel
theorem dX11_feed_27 : decode cX11_feed 27 = .ok (.getfield 10, 3) := by decide +kernel
theorem dX11_feed_30 : decode cX11_feed 30 = .ok (.iload_n 2, 1) := by decide +kernel
theorem dX11_feed_31 : decode cX11_feed 31 = .ok (.invokevirtual 75, 3) := by decide +kernel
theorem dX11_feed_34 : decode cX11_feed 34 = .ok (.aload_n 0, 1) := by decide +kernel
theorem dX11_feed_35 : decode cX11_feed 35 = .ok (.getfield 10, 3) := by decide +kernel
theorem dX11_feed_38 : decode cX11_feed 38 = .ok (.iload_n 3, 1) := by decide +kernel
theorem dX11_feed_39 : decode cX11_feed 39 = .ok (.invokevirtual 75, 3) := by decide +kernel
theorem dX11_feed_42 : decode cX11_feed 42 = .ok (.aload_n 0, 1) := by decide +kernel
theorem dX11_feed_43 : decode cX11_feed 43 = .ok (.getfield 10, 3) := by decide +kernel
theorem dX11_feed_46 : decode cX11_feed 46 = .ok (.iload 4, 2) := by decide +kernel
theorem dX11_feed_48 : decode cX11_feed 48 = .ok (.invokevirtual 75, 3) := by decide +kernel
theorem dX11_feed_51 : decode cX11_feed 51 = .ok (.aload_n 0, 1) := by decide +kernel
theorem dX11_feed_52 : decode cX11_feed 52 = .ok (.getfield 10, 3) := by decide +kernel
theorem dX11_feed_55 : decode cX11_feed 55 = .ok (.iload 5, 2) := by decide +kernel
theorem dX11_feed_57 : decode cX11_feed 57 = .ok (.invokevirtual 75, 3) := by decide +kernel
theorem dX11_feed_60 : decode cX11_feed 60 = .ok (.aload_n 0, 1) := by decide +kernel
theorem dX11_feed_61 : decode cX11_feed 61 = .ok (.getfield 10, 3) := by decide +kernel
theorem dX11_feed_64 : decode cX11_feed 64 = .ok (.getfield 72, 3) := by decide +kernel
theorem dX11_feed_67 : decode cX11_feed 67 = .ok (.ireturn, 1) := by decide +kernel
theorem dX11_schedule_0 : decode cX11_schedule 0 = .ok (.iload_n 1, 1) := by decide +kernel
theorem dX11_schedule_1 : decode cX11_schedule 1 = .ok (.iconst 1, 1) := by decide +kernel
theorem dX11_schedule_2 : decode cX11_schedule 2 = .ok (.if_icmp .lt 21, 3) := by decide +kernel
theorem dX11_schedule_5 : decode cX11_schedule 5 = .ok (.iload_n 1, 1) := by decide +kernel
theorem dX11_schedule_6 : decode cX11_schedule 6 = .ok (.sipush 160, 3) := by decide +kernel
theorem dX11_schedule_9 : decode cX11_schedule 9 = .ok (.if_icmp .gt 14, 3) := by decide +kernel
theorem dX11_schedule_12 : decode cX11_schedule 12 = .ok (.iload_n 1, 1) := by decide +kernel
theorem dX11_schedule_13 : decode cX11_schedule 13 = .ok (.aload_n 0, 1) := by decide +kernel
theorem dX11_schedule_14 : decode cX11_schedule 14 = .ok (.getfield 10, 3) := by decide +kernel
theorem dX11_schedule_17 : decode cX11_schedule 17 = .ok (.getfield 72, 3) := by decide +kernel
theorem dX11_schedule_20 : decode cX11_schedule 20 = .ok (.if_icmp .le 5, 3) := by decide +kernel
theorem dX11_schedule_23 : decode cX11_schedule 23 = .ok (.iconst (-1), 1) := by decide +kernel
theorem dX11_schedule_24 : decode cX11_schedule 24 = .ok (.ireturn, 1) := by decide +kernel
theorem dX11_schedule_25 : decode cX11_schedule 25 = .ok (.aload_n 0, 1) := by decide +kernel
theorem dX11_schedule_26 : decode cX11_schedule 26 = .ok (.getfield 22, 3) := by decide +kernel
theorem dX11_schedule_29 : decode cX11_schedule 29 = .ok (.aload_n 0, 1) := by decide +kernel
theorem dX11_schedule_30 : decode cX11_schedule 30 = .ok (.getfield 10, 3) := by decide +kernel
theorem dX11_schedule_33 : decode cX11_schedule 33 = .ok (.iload_n 1, 1) := by decide +kernel
theorem dX11_schedule_34 : decode cX11_schedule 34 = .ok (.aload_n 0, 1) := by decide +kernel
theorem dX11_schedule_35 : decode cX11_schedule 35 = .ok (.getfield 36, 3) := by decide +kernel
theorem dX11_schedule_38 : decode cX11_schedule 38 = .ok (.invokevirtual 79, 3) := by decide +kernel
theorem dX11_schedule_41 : decode cX11_schedule 41 = .ok (.istore_n 2, 1) := by decide +kernel
theorem dX11_schedule_42 : decode cX11_schedule 42 = .ok (.aload_n 0, 1) := by decide +kernel
theorem dX11_schedule_43 : decode cX11_schedule 43 = .ok (.getfield 10, 3) := by decide +kernel
theorem dX11_schedule_46 : decode cX11_schedule 46 = .ok (.iconst 0, 1) := by decide +kernel
theorem dX11_schedule_47 : decode cX11_schedule 47 = .ok (.putfield 72, 3) := by decide +kernel
theorem dX11_schedule_50 : decode cX11_schedule 50 = .ok (.iload_n 2, 1) := by decide +kernel
theorem dX11_schedule_51 : decode cX11_schedule 51 = .ok (.ifCond .eq 5, 3) := by decide +kernel
theorem dX11_schedule_54 : decode cX11_schedule 54 = .ok (.iload_n 2, 1) := by decide +kernel
theorem dX11_schedule_55 : decode cX11_schedule 55 = .ok (.ireturn, 1) := by decide +kernel
theorem dX11_schedule_56 : decode cX11_schedule 56 = .ok (.aload_n 0, 1) := by decide +kernel
theorem dX11_schedule_57 : decode cX11_schedule 57 = .ok (.getfield 57, 3) := by decide +kernel
theorem dX11_schedule_60 : decode cX11_schedule 60 = .ok (.aload_n 0, 1) := by decide +kernel
theorem dX11_schedule_61 : decode cX11_schedule 61 = .ok (.getfield 36, 3) := by decide +kernel
theorem dX11_schedule_64 : decode cX11_schedule 64 = .ok (.invokevirtual 83, 3) := by decide +kernel
theorem dX11_schedule_67 : decode cX11_schedule 67 = .ok (.aload_n 0, 1) := by decide +kernel
theorem dX11_schedule_68 : decode cX11_schedule 68 = .ok (.getfield 57, 3) := by decide +kernel
theorem dX11_schedule_71 : decode cX11_schedule 71 = .ok (.getfield 87, 3) := by decide +kernel
theorem dX11_schedule_74 : decode cX11_schedule 74 = .ok (.getfield 90, 3) := by decide +kernel
theorem dX11_schedule_77 : decode cX11_schedule 77 = .ok (.ireturn, 1) := by decide +kernel
theorem dX11_flight_0 : decode cX11_flight 0 = .ok (.iload_n 1, 1) := by decide +kernel
theorem dX11_flight_1 : decode cX11_flight 1 = .ok (.invokestatic 91, 3) := by decide +kernel
theorem dX11_flight_4 : decode cX11_flight 4 = .ok (.ifCond .eq 10, 3) := by decide +kernel
theorem dX11_flight_7 : decode cX11_flight 7 = .ok (.iload_n 2, 1) := by decide +kernel
theorem dX11_flight_8 : decode cX11_flight 8 = .ok (.invokestatic 95, 3) := by decide +kernel
theorem dX11_flight_11 : decode cX11_flight 11 = .ok (.ifCond .ne 5, 3) := by decide +kernel
theorem dX11_flight_14 : decode cX11_flight 14 = .ok (.iconst (-1), 1) := by decide +kernel
theorem dX11_flight_15 : decode cX11_flight 15 = .ok (.ireturn, 1) := by decide +kernel
theorem dX11_flight_16 : decode cX11_flight 16 = .ok (.iload_n 3, 1) := by decide +kernel
theorem dX11_flight_17 : decode cX11_flight 17 = .ok (.ifCond .lt 23, 3) := by decide +kernel
theorem dX11_flight_20 : decode cX11_flight 20 = .ok (.iload_n 3, 1) := by decide +kernel
theorem dX11_flight_21 : decode cX11_flight 21 = .ok (.sipush 300, 3) := by decide +kernel
theorem dX11_flight_24 : decode cX11_flight 24 = .ok (.if_icmp .gt 16, 3) := by decide +kernel
theorem dX11_flight_27 : decode cX11_flight 27 = .ok (.iload 4, 2) := by decide +kernel
theorem dX11_flight_29 : decode cX11_flight 29 = .ok (.iconst 1, 1) := by decide +kernel
theorem dX11_flight_30 : decode cX11_flight 30 = .ok (.if_icmp .lt 10, 3) := by decide +kernel
theorem dX11_flight_33 : decode cX11_flight 33 = .ok (.iload 4, 2) := by decide +kernel
theorem dX11_flight_35 : decode cX11_flight 35 = .ok (.bipush 9, 2) := by decide +kernel
theorem dX11_flight_37 : decode cX11_flight 37 = .ok (.if_icmp .le 5, 3) := by decide +kernel
theorem dX11_flight_40 : decode cX11_flight 40 = .ok (.iconst (-1), 1) := by decide +kernel
theorem dX11_flight_41 : decode cX11_flight 41 = .ok (.ireturn, 1) := by decide +kernel
theorem dX11_flight_42 : decode cX11_flight 42 = .ok (.aload_n 0, 1) := by decide +kernel
theorem dX11_flight_43 : decode cX11_flight 43 = .ok (.getfield 57, 3) := by decide +kernel
theorem dX11_flight_46 : decode cX11_flight 46 = .ok (.getfield 87, 3) := by decide +kernel
theorem dX11_flight_49 : decode cX11_flight 49 = .ok (.iload_n 1, 1) := by decide +kernel
theorem dX11_flight_50 : decode cX11_flight 50 = .ok (.iload_n 2, 1) := by decide +kernel
theorem dX11_flight_51 : decode cX11_flight 51 = .ok (.iload_n 3, 1) := by decide +kernel
theorem dX11_flight_52 : decode cX11_flight 52 = .ok (.iload 4, 2) := by decide +kernel
theorem dX11_flight_54 : decode cX11_flight 54 = .ok (.invokevirtual 98, 3) := by decide +kernel
theorem dX11_flight_57 : decode cX11_flight 57 = .ok (.ireturn, 1) := by decide +kernel
theorem dX11_draws_0 : decode cX11_draws 0 = .ok (.iload_n 2, 1) := by decide +kernel
theorem dX11_draws_1 : decode cX11_draws 1 = .ok (.iconst 1, 1) := by decide +kernel
theorem dX11_draws_2 : decode cX11_draws 2 = .ok (.if_icmp .lt 9, 3) := by decide +kernel
theorem dX11_draws_5 : decode cX11_draws 5 = .ok (.iload_n 2, 1) := by decide +kernel
theorem dX11_draws_6 : decode cX11_draws 6 = .ok (.bipush 20, 2) := by decide +kernel
theorem dX11_draws_8 : decode cX11_draws 8 = .ok (.if_icmp .le 5, 3) := by decide +kernel
theorem dX11_draws_11 : decode cX11_draws 11 = .ok (.iconst (-1), 1) := by decide +kernel
theorem dX11_draws_12 : decode cX11_draws 12 = .ok (.ireturn, 1) := by decide +kernel
theorem dX11_draws_13 : decode cX11_draws 13 = .ok (.aload_n 0, 1) := by decide +kernel
theorem dX11_draws_14 : decode cX11_draws 14 = .ok (.getfield 29, 3) := by decide +kernel
theorem dX11_draws_17 : decode cX11_draws 17 = .ok (.iload_n 1, 1) := by decide +kernel
theorem dX11_draws_18 : decode cX11_draws 18 = .ok (.invokevirtual 102, 3) := by decide +kernel
theorem dX11_draws_21 : decode cX11_draws 21 = .ok (.aload_n 0, 1) := by decide +kernel
theorem dX11_draws_22 : decode cX11_draws 22 = .ok (.getfield 36, 3) := by decide +kernel
theorem dX11_draws_25 : decode cX11_draws 25 = .ok (.iconst 0, 1) := by decide +kernel
theorem dX11_draws_26 : decode cX11_draws 26 = .ok (.putfield 90, 3) := by decide +kernel
theorem dX11_draws_29 : decode cX11_draws 29 = .ok (.iconst 0, 1) := by decide +kernel
theorem dX11_draws_30 : decode cX11_draws 30 = .ok (.istore_n 3, 1) := by decide +kernel
theorem dX11_draws_31 : decode cX11_draws 31 = .ok (.iload_n 3, 1) := by decide +kernel
theorem dX11_draws_32 : decode cX11_draws 32 = .ok (.iload_n 2, 1) := by decide +kernel
theorem dX11_draws_33 : decode cX11_draws 33 = .ok (.if_icmp .ge 72, 3) := by decide +kernel
theorem dX11_draws_36 : decode cX11_draws 36 = .ok (.aload_n 0, 1) := by decide +kernel
theorem dX11_draws_37 : decode cX11_draws 37 = .ok (.getfield 29, 3) := by decide +kernel
theorem dX11_draws_40 : decode cX11_draws 40 = .ok (.iconst 5, 1) := by decide +kernel
theorem dX11_draws_41 : decode cX11_draws 41 = .ok (.invokevirtual 105, 3) := by decide +kernel
theorem dX11_draws_44 : decode cX11_draws 44 = .ok (.istore 4, 2) := by decide +kernel
theorem dX11_draws_46 : decode cX11_draws 46 = .ok (.aload_n 0, 1) := by decide +kernel
theorem dX11_draws_47 : decode cX11_draws 47 = .ok (.getfield 29, 3) := by decide +kernel
theorem dX11_draws_50 : decode cX11_draws 50 = .ok (.sipush 720, 3) := by decide +kernel
theorem dX11_draws_53 : decode cX11_draws 53 = .ok (.invokevirtual 105, 3) := by decide +kernel
theorem dX11_draws_56 : decode cX11_draws 56 = .ok (.istore 5, 2) := by decide +kernel
theorem dX11_draws_58 : decode cX11_draws 58 = .ok (.aload_n 0, 1) := by decide +kernel
theorem dX11_draws_59 : decode cX11_draws 59 = .ok (.getfield 29, 3) := by decide +kernel
theorem dX11_draws_62 : decode cX11_draws 62 = .ok (.sipush 301, 3) := by decide +kernel
theorem dX11_draws_65 : decode cX11_draws 65 = .ok (.invokevirtual 105, 3) := by decide +kernel
theorem dX11_draws_68 : decode cX11_draws 68 = .ok (.istore 6, 2) := by decide +kernel
theorem dX11_draws_70 : decode cX11_draws 70 = .ok (.aload_n 0, 1) := by decide +kernel
theorem dX11_draws_71 : decode cX11_draws 71 = .ok (.getfield 29, 3) := by decide +kernel
theorem dX11_draws_74 : decode cX11_draws 74 = .ok (.bipush 9, 2) := by decide +kernel
theorem dX11_draws_76 : decode cX11_draws 76 = .ok (.invokevirtual 105, 3) := by decide +kernel
theorem dX11_draws_79 : decode cX11_draws 79 = .ok (.iconst 1, 1) := by decide +kernel
theorem dX11_draws_80 : decode cX11_draws 80 = .ok (.iadd, 1) := by decide +kernel
theorem dX11_draws_81 : decode cX11_draws 81 = .ok (.istore 7, 2) := by decide +kernel
theorem dX11_draws_83 : decode cX11_draws 83 = .ok (.aload_n 0, 1) := by decide +kernel
theorem dX11_draws_84 : decode cX11_draws 84 = .ok (.getfield 36, 3) := by decide +kernel
theorem dX11_draws_87 : decode cX11_draws 87 = .ok (.iload 4, 2) := by decide +kernel
theorem dX11_draws_89 : decode cX11_draws 89 = .ok (.iload 5, 2) := by decide +kernel
theorem dX11_draws_91 : decode cX11_draws 91 = .ok (.iload 6, 2) := by decide +kernel
theorem dX11_draws_93 : decode cX11_draws 93 = .ok (.iload 7, 2) := by decide +kernel
theorem dX11_draws_95 : decode cX11_draws 95 = .ok (.invokevirtual 98, 3) := by decide +kernel
theorem dX11_draws_98 : decode cX11_draws 98 = .ok (.pop, 1) := by decide +kernel
theorem dX11_draws_99 : decode cX11_draws 99 = .ok (.iinc 3 1, 3) := by decide +kernel
theorem dX11_draws_102 : decode cX11_draws 102 = .ok (.goto (-71), 3) := by decide +kernel
theorem dX11_draws_105 : decode cX11_draws 105 = .ok (.aload_n 0, 1) := by decide +kernel
theorem dX11_draws_106 : decode cX11_draws 106 = .ok (.getfield 57, 3) := by decide +kernel
theorem dX11_draws_109 : decode cX11_draws 109 = .ok (.aload_n 0, 1) := by decide +kernel
theorem dX11_draws_110 : decode cX11_draws 110 = .ok (.getfield 36, 3) := by decide +kernel
theorem dX11_draws_113 : decode cX11_draws 113 = .ok (.invokevirtual 83, 3) := by decide +kernel
theorem dX11_draws_116 : decode cX11_draws 116 = .ok (.aload_n 0, 1) := by decide +kernel
theorem dX11_draws_117 : decode cX11_draws 117 = .ok (.getfield 29, 3) := by decide +kernel
theorem dX11_draws_120 : decode cX11_draws 120 = .ok (.getfield 109, 3) := by decide +kernel
theorem dX11_draws_123 : decode cX11_draws 123 = .ok (.ireturn, 1) := by decide +kernel
theorem dX11_letter_0 : decode cX11_letter 0 = .ok (.iload_n 1, 1) := by decide +kernel
theorem dX11_letter_1 : decode cX11_letter 1 = .ok (.iconst (-1), 1) := by decide +kernel
theorem dX11_letter_2 : decode cX11_letter 2 = .ok (.if_icmp .ge 5, 3) := by decide +kernel
theorem dX11_letter_5 : decode cX11_letter 5 = .ok (.iconst (-1), 1) := by decide +kernel
theorem dX11_letter_6 : decode cX11_letter 6 = .ok (.ireturn, 1) := by decide +kernel
theorem dX11_letter_7 : decode cX11_letter 7 = .ok (.aload_n 0, 1) := by decide +kernel
theorem dX11_letter_8 : decode cX11_letter 8 = .ok (.getfield 57, 3) := by decide +kernel
theorem dX11_letter_11 : decode cX11_letter 11 = .ok (.getfield 87, 3) := by decide +kernel
theorem dX11_letter_14 : decode cX11_letter 14 = .ok (.aload_n 0, 1) := by decide +kernel
theorem dX11_letter_15 : decode cX11_letter 15 = .ok (.getfield 16, 3) := by decide +kernel
theorem dX11_letter_18 : decode cX11_letter 18 = .ok (.invokevirtual 112, 3) := by decide +kernel
theorem dX11_letter_21 : decode cX11_letter 21 = .ok (.iload_n 1, 1) := by decide +kernel
theorem dX11_letter_22 : decode cX11_letter 22 = .ok (.iconst (-1), 1) := by decide +kernel
theorem dX11_letter_23 : decode cX11_letter 23 = .ok (.if_icmp .ne 11, 3) := by decide +kernel
theorem dX11_letter_26 : decode cX11_letter 26 = .ok (.aload_n 0, 1) := by decide +kernel
theorem dX11_letter_27 : decode cX11_letter 27 = .ok (.getfield 16, 3) := by decide +kernel
theorem dX11_letter_30 : decode cX11_letter 30 = .ok (.getfield 72, 3) := by decide +kernel
theorem dX11_letter_33 : decode cX11_letter 33 = .ok (.ireturn, 1) := by decide +kernel
theorem dX11_letter_34 : decode cX11_letter 34 = .ok (.iload_n 1, 1) := by decide +kernel
theorem dX11_letter_35 : decode cX11_letter 35 = .ok (.aload_n 0, 1) := by decide +kernel
theorem dX11_letter_36 : decode cX11_letter 36 = .ok (.getfield 16, 3) := by decide +kernel
theorem dX11_letter_39 : decode cX11_letter 39 = .ok (.getfield 72, 3) := by decide +kernel
theorem dX11_letter_42 : decode cX11_letter 42 = .ok (.if_icmp .ge 14, 3) := by decide +kernel
theorem dX11_letter_45 : decode cX11_letter 45 = .ok (.aload_n 0, 1) := by decide +kernel
theorem dX11_letter_46 : decode cX11_letter 46 = .ok (.getfield 16, 3) := by decide +kernel
theorem dX11_letter_49 : decode cX11_letter 49 = .ok (.iload_n 1, 1) := by decide +kernel
theorem dX11_letter_50 : decode cX11_letter 50 = .ok (.invokevirtual 116, 3) := by decide +kernel
theorem dX11_letter_53 : decode cX11_letter 53 = .ok (.goto 5, 3) := by decide +kernel
theorem dX11_letter_56 : decode cX11_letter 56 = .ok (.bipush (-2), 2) := by decide +kernel
theorem dX11_letter_58 : decode cX11_letter 58 = .ok (.ireturn, 1) := by decide +kernel
theorem dX11_rate_0 : decode cX11_rate 0 = .ok (.iload_n 1, 1) := by decide +kernel
theorem dX11_rate_1 : decode cX11_rate 1 = .ok (.invokestatic 119, 3) := by decide +kernel
theorem dX11_rate_4 : decode cX11_rate 4 = .ok (.ifCond .eq 10, 3) := by decide +kernel
theorem dX11_rate_7 : decode cX11_rate 7 = .ok (.iload_n 2, 1) := by decide +kernel
theorem dX11_rate_8 : decode cX11_rate 8 = .ok (.invokestatic 122, 3) := by decide +kernel
theorem dX11_rate_11 : decode cX11_rate 11 = .ok (.ifCond .ne 5, 3) := by decide +kernel
theorem dX11_rate_14 : decode cX11_rate 14 = .ok (.iconst (-1), 1) := by decide +kernel
theorem dX11_rate_15 : decode cX11_rate 15 = .ok (.ireturn, 1) := by decide +kernel
theorem dX11_rate_16 : decode cX11_rate 16 = .ok (.aload_n 0, 1) := by decide +kernel
theorem dX11_rate_17 : decode cX11_rate 17 = .ok (.getfield 57, 3) := by decide +kernel
theorem dX11_rate_20 : decode cX11_rate 20 = .ok (.getfield 125, 3) := by decide +kernel
theorem dX11_rate_23 : decode cX11_rate 23 = .ok (.iload_n 1, 1) := by decide +kernel
theorem dX11_rate_24 : decode cX11_rate 24 = .ok (.invokevirtual 129, 3) := by decide +kernel
theorem dX11_rate_27 : decode cX11_rate 27 = .ok (.istore_n 3, 1) := by decide +kernel
theorem dX11_rate_28 : decode cX11_rate 28 = .ok (.aload_n 0, 1) := by decide +kernel
theorem dX11_rate_29 : decode cX11_rate 29 = .ok (.getfield 57, 3) := by decide +kernel
theorem dX11_rate_32 : decode cX11_rate 32 = .ok (.getfield 125, 3) := by decide +kernel
theorem dX11_rate_35 : decode cX11_rate 35 = .ok (.iload_n 1, 1) := by decide +kernel
theorem dX11_rate_36 : decode cX11_rate 36 = .ok (.iload_n 2, 1) := by decide +kernel
theorem dX11_rate_37 : decode cX11_rate 37 = .ok (.invokevirtual 134, 3) := by decide +kernel
theorem dX11_rate_40 : decode cX11_rate 40 = .ok (.iload_n 3, 1) := by decide +kernel
theorem dX11_rate_41 : decode cX11_rate 41 = .ok (.ireturn, 1) := by decide +kernel
theorem dX11_storm_0 : decode cX11_storm 0 = .ok (.iload_n 2, 1) := by decide +kernel
theorem dX11_storm_1 : decode cX11_storm 1 = .ok (.iload_n 3, 1) := by decide +kernel
theorem dX11_storm_2 : decode cX11_storm 2 = .ok (.invokestatic 138, 3) := by decide +kernel
theorem dX11_storm_5 : decode cX11_storm 5 = .ok (.ifCond .eq 11, 3) := by decide +kernel
theorem dX11_storm_8 : decode cX11_storm 8 = .ok (.iload 4, 2) := by decide +kernel
theorem dX11_storm_10 : decode cX11_storm 10 = .ok (.invokestatic 122, 3) := by decide +kernel
theorem dX11_storm_13 : decode cX11_storm 13 = .ok (.ifCond .ne 5, 3) := by decide +kernel
theorem dX11_storm_16 : decode cX11_storm 16 = .ok (.iconst (-1), 1) := by decide +kernel
theorem dX11_storm_17 : decode cX11_storm 17 = .ok (.ireturn, 1) := by decide +kernel
theorem dX11_storm_18 : decode cX11_storm 18 = .ok (.aload_n 0, 1) := by decide +kernel
theorem dX11_storm_19 : decode cX11_storm 19 = .ok (.getfield 29, 3) := by decide +kernel
theorem dX11_storm_22 : decode cX11_storm 22 = .ok (.iload_n 1, 1) := by decide +kernel
theorem dX11_storm_23 : decode cX11_storm 23 = .ok (.invokevirtual 102, 3) := by decide +kernel
theorem dX11_storm_26 : decode cX11_storm 26 = .ok (.iload_n 2, 1) := by decide +kernel
theorem dX11_storm_27 : decode cX11_storm 27 = .ok (.istore 5, 2) := by decide +kernel
theorem dX11_storm_29 : decode cX11_storm 29 = .ok (.iload 5, 2) := by decide +kernel
theorem dX11_storm_31 : decode cX11_storm 31 = .ok (.iload_n 3, 1) := by decide +kernel
theorem dX11_storm_32 : decode cX11_storm 32 = .ok (.if_icmp .gt 32, 3) := by decide +kernel
theorem dX11_storm_35 : decode cX11_storm 35 = .ok (.aload_n 0, 1) := by decide +kernel
theorem dX11_storm_36 : decode cX11_storm 36 = .ok (.getfield 57, 3) := by decide +kernel
theorem dX11_storm_39 : decode cX11_storm 39 = .ok (.getfield 125, 3) := by decide +kernel
theorem dX11_storm_42 : decode cX11_storm 42 = .ok (.iload 5, 2) := by decide +kernel
theorem dX11_storm_44 : decode cX11_storm 44 = .ok (.aload_n 0, 1) := by decide +kernel
theorem dX11_storm_45 : decode cX11_storm 45 = .ok (.getfield 29, 3) := by decide +kernel
theorem dX11_storm_48 : decode cX11_storm 48 = .ok (.iload 4, 2) := by decide +kernel
theorem dX11_storm_50 : decode cX11_storm 50 = .ok (.iconst 1, 1) := by decide +kernel
theorem dX11_storm_51 : decode cX11_storm 51 = .ok (.iadd, 1) := by decide +kernel
theorem dX11_storm_52 : decode cX11_storm 52 = .ok (.invokevirtual 105, 3) := by decide +kernel
theorem dX11_storm_55 : decode cX11_storm 55 = .ok (.invokevirtual 134, 3) := by decide +kernel
theorem dX11_storm_58 : decode cX11_storm 58 = .ok (.iinc 5 1, 3) := by decide +kernel
theorem dX11_storm_61 : decode cX11_storm 61 = .ok (.goto (-32), 3) := by decide +kernel
theorem dX11_storm_64 : decode cX11_storm 64 = .ok (.aload_n 0, 1) := by decide +kernel
theorem dX11_storm_65 : decode cX11_storm 65 = .ok (.getfield 29, 3) := by decide +kernel
theorem dX11_storm_68 : decode cX11_storm 68 = .ok (.getfield 109, 3) := by decide +kernel
theorem dX11_storm_71 : decode cX11_storm 71 = .ok (.ireturn, 1) := by decide +kernel
theorem dX11_now_0 : decode cX11_now 0 = .ok (.iload_n 1, 1) := by decide +kernel
theorem dX11_now_1 : decode cX11_now 1 = .ok (.invokestatic 95, 3) := by decide +kernel
theorem dX11_now_4 : decode cX11_now 4 = .ok (.ifCond .eq 14, 3) := by decide +kernel
theorem dX11_now_7 : decode cX11_now 7 = .ok (.iload_n 1, 1) := by decide +kernel
theorem dX11_now_8 : decode cX11_now 8 = .ok (.aload_n 0, 1) := by decide +kernel
theorem dX11_now_9 : decode cX11_now 9 = .ok (.getfield 57, 3) := by decide +kernel
theorem dX11_now_12 : decode cX11_now 12 = .ok (.getfield 142, 3) := by decide +kernel
theorem dX11_now_15 : decode cX11_now 15 = .ok (.if_icmp .ge 5, 3) := by decide +kernel
theorem dX11_now_18 : decode cX11_now 18 = .ok (.iconst 0, 1) := by decide +kernel
theorem dX11_now_19 : decode cX11_now 19 = .ok (.ireturn, 1) := by decide +kernel
theorem dX11_now_20 : decode cX11_now 20 = .ok (.aload_n 0, 1) := by decide +kernel
theorem dX11_now_21 : decode cX11_now 21 = .ok (.getfield 57, 3) := by decide +kernel
theorem dX11_now_24 : decode cX11_now 24 = .ok (.iload_n 1, 1) := by decide +kernel
theorem dX11_now_25 : decode cX11_now 25 = .ok (.putfield 142, 3) := by decide +kernel
theorem dX11_now_28 : decode cX11_now 28 = .ok (.iconst 1, 1) := by decide +kernel
theorem dX11_now_29 : decode cX11_now 29 = .ok (.ireturn, 1) := by decide +kernel
theorem dX11_told_0 : decode cX11_told 0 = .ok (.aload_n 0, 1) := by decide +kernel
theorem dX11_told_1 : decode cX11_told 1 = .ok (.getfield 57, 3) := by decide +kernel
theorem dX11_told_4 : decode cX11_told 4 = .ok (.iload_n 1, 1) := by decide +kernel
theorem dX11_told_5 : decode cX11_told 5 = .ok (.invokevirtual 145, 3) := by decide +kernel
theorem dX11_told_8 : decode cX11_told 8 = .ok (.ifCond .ne 5, 3) := by decide +kernel
theorem dX11_told_11 : decode cX11_told 11 = .ok (.iconst (-1), 1) := by decide +kernel
theorem dX11_told_12 : decode cX11_told 12 = .ok (.ireturn, 1) := by decide +kernel
theorem dX11_told_13 : decode cX11_told 13 = .ok (.iload_n 2, 1) := by decide +kernel
theorem dX11_told_14 : decode cX11_told 14 = .ok (.tableswitch 256 0 10 #[58, 71, 84, 97, 110, 119, 145, 171, 197, 214, 231], 58) := by decide +kernel
theorem dX11_told_72 : decode cX11_told 72 = .ok (.aload_n 0, 1) := by decide +kernel
theorem dX11_told_73 : decode cX11_told 73 = .ok (.getfield 57, 3) := by decide +kernel
theorem dX11_told_76 : decode cX11_told 76 = .ok (.getfield 87, 3) := by decide +kernel
theorem dX11_told_79 : decode cX11_told 79 = .ok (.getfield 148, 3) := by decide +kernel
theorem dX11_told_82 : decode cX11_told 82 = .ok (.iload_n 1, 1) := by decide +kernel
theorem dX11_told_83 : decode cX11_told 83 = .ok (.iaload, 1) := by decide +kernel
theorem dX11_told_84 : decode cX11_told 84 = .ok (.ireturn, 1) := by decide +kernel
theorem dX11_told_85 : decode cX11_told 85 = .ok (.aload_n 0, 1) := by decide +kernel
theorem dX11_told_86 : decode cX11_told 86 = .ok (.getfield 57, 3) := by decide +kernel
theorem dX11_told_89 : decode cX11_told 89 = .ok (.getfield 87, 3) := by decide +kernel
theorem dX11_told_92 : decode cX11_told 92 = .ok (.getfield 152, 3) := by decide +kernel
theorem dX11_told_95 : decode cX11_told 95 = .ok (.iload_n 1, 1) := by decide +kernel
theorem dX11_told_96 : decode cX11_told 96 = .ok (.iaload, 1) := by decide +kernel
theorem dX11_told_97 : decode cX11_told 97 = .ok (.ireturn, 1) := by decide +kernel
theorem dX11_told_98 : decode cX11_told 98 = .ok (.aload_n 0, 1) := by decide +kernel
theorem dX11_told_99 : decode cX11_told 99 = .ok (.getfield 57, 3) := by decide +kernel
theorem dX11_told_102 : decode cX11_told 102 = .ok (.getfield 87, 3) := by decide +kernel
theorem dX11_told_105 : decode cX11_told 105 = .ok (.getfield 155, 3) := by decide +kernel
theorem dX11_told_108 : decode cX11_told 108 = .ok (.iload_n 1, 1) := by decide +kernel
theorem dX11_told_109 : decode cX11_told 109 = .ok (.iaload, 1) := by decide +kernel
theorem dX11_told_110 : decode cX11_told 110 = .ok (.ireturn, 1) := by decide +kernel
theorem dX11_told_111 : decode cX11_told 111 = .ok (.aload_n 0, 1) := by decide +kernel
theorem dX11_told_112 : decode cX11_told 112 = .ok (.getfield 57, 3) := by decide +kernel
theorem dX11_told_115 : decode cX11_told 115 = .ok (.getfield 87, 3) := by decide +kernel
theorem dX11_told_118 : decode cX11_told 118 = .ok (.getfield 158, 3) := by decide +kernel
theorem dX11_told_121 : decode cX11_told 121 = .ok (.iload_n 1, 1) := by decide +kernel
theorem dX11_told_122 : decode cX11_told 122 = .ok (.iaload, 1) := by decide +kernel
theorem dX11_told_123 : decode cX11_told 123 = .ok (.ireturn, 1) := by decide +kernel
theorem dX11_told_124 : decode cX11_told 124 = .ok (.aload_n 0, 1) := by decide +kernel
theorem dX11_told_125 : decode cX11_told 125 = .ok (.getfield 57, 3) := by decide +kernel
theorem dX11_told_128 : decode cX11_told 128 = .ok (.iload_n 1, 1) := by decide +kernel
theorem dX11_told_129 : decode cX11_told 129 = .ok (.invokevirtual 161, 3) := by decide +kernel
theorem dX11_told_132 : decode cX11_told 132 = .ok (.ireturn, 1) := by decide +kernel
theorem dX11_told_133 : decode cX11_told 133 = .ok (.aload_n 0, 1) := by decide +kernel
theorem dX11_told_134 : decode cX11_told 134 = .ok (.getfield 57, 3) := by decide +kernel
theorem dX11_told_137 : decode cX11_told 137 = .ok (.iload_n 1, 1) := by decide +kernel
theorem dX11_told_138 : decode cX11_told 138 = .ok (.invokevirtual 164, 3) := by decide +kernel
theorem dX11_told_141 : decode cX11_told 141 = .ok (.ifCond .eq 15, 3) := by decide +kernel
theorem dX11_told_144 : decode cX11_told 144 = .ok (.aload_n 0, 1) := by decide +kernel
theorem dX11_told_145 : decode cX11_told 145 = .ok (.getfield 57, 3) := by decide +kernel
theorem dX11_told_148 : decode cX11_told 148 = .ok (.getfield 167, 3) := by decide +kernel
theorem dX11_told_151 : decode cX11_told 151 = .ok (.iload_n 1, 1) := by decide +kernel
theorem dX11_told_152 : decode cX11_told 152 = .ok (.iaload, 1) := by decide +kernel
theorem dX11_told_153 : decode cX11_told 153 = .ok (.goto 5, 3) := by decide +kernel
theorem dX11_told_156 : decode cX11_told 156 = .ok (.bipush (-2), 2) := by decide +kernel
theorem dX11_told_158 : decode cX11_told 158 = .ok (.ireturn, 1) := by decide +kernel
theorem dX11_told_159 : decode cX11_told 159 = .ok (.aload_n 0, 1) := by decide +kernel
theorem dX11_told_160 : decode cX11_told 160 = .ok (.getfield 57, 3) := by decide +kernel
theorem dX11_told_163 : decode cX11_told 163 = .ok (.iload_n 1, 1) := by decide +kernel
theorem dX11_told_164 : decode cX11_told 164 = .ok (.invokevirtual 164, 3) := by decide +kernel
theorem dX11_told_167 : decode cX11_told 167 = .ok (.ifCond .eq 15, 3) := by decide +kernel
theorem dX11_told_170 : decode cX11_told 170 = .ok (.aload_n 0, 1) := by decide +kernel
theorem dX11_told_171 : decode cX11_told 171 = .ok (.getfield 57, 3) := by decide +kernel
theorem dX11_told_174 : decode cX11_told 174 = .ok (.getfield 170, 3) := by decide +kernel
theorem dX11_told_177 : decode cX11_told 177 = .ok (.iload_n 1, 1) := by decide +kernel
theorem dX11_told_178 : decode cX11_told 178 = .ok (.iaload, 1) := by decide +kernel
theorem dX11_told_179 : decode cX11_told 179 = .ok (.goto 5, 3) := by decide +kernel
theorem dX11_told_182 : decode cX11_told 182 = .ok (.bipush (-2), 2) := by decide +kernel
theorem dX11_told_184 : decode cX11_told 184 = .ok (.ireturn, 1) := by decide +kernel
theorem dX11_told_185 : decode cX11_told 185 = .ok (.aload_n 0, 1) := by decide +kernel
theorem dX11_told_186 : decode cX11_told 186 = .ok (.getfield 57, 3) := by decide +kernel
theorem dX11_told_189 : decode cX11_told 189 = .ok (.iload_n 1, 1) := by decide +kernel
theorem dX11_told_190 : decode cX11_told 190 = .ok (.invokevirtual 164, 3) := by decide +kernel
theorem dX11_told_193 : decode cX11_told 193 = .ok (.ifCond .eq 15, 3) := by decide +kernel
theorem dX11_told_196 : decode cX11_told 196 = .ok (.aload_n 0, 1) := by decide +kernel
theorem dX11_told_197 : decode cX11_told 197 = .ok (.getfield 57, 3) := by decide +kernel
theorem dX11_told_200 : decode cX11_told 200 = .ok (.getfield 173, 3) := by decide +kernel
theorem dX11_told_203 : decode cX11_told 203 = .ok (.iload_n 1, 1) := by decide +kernel
theorem dX11_told_204 : decode cX11_told 204 = .ok (.iaload, 1) := by decide +kernel
theorem dX11_told_205 : decode cX11_told 205 = .ok (.goto 5, 3) := by decide +kernel
theorem dX11_told_208 : decode cX11_told 208 = .ok (.bipush (-2), 2) := by decide +kernel
theorem dX11_told_210 : decode cX11_told 210 = .ok (.ireturn, 1) := by decide +kernel
theorem dX11_told_211 : decode cX11_told 211 = .ok (.aload_n 0, 1) := by decide +kernel
theorem dX11_told_212 : decode cX11_told 212 = .ok (.getfield 57, 3) := by decide +kernel
theorem dX11_told_215 : decode cX11_told 215 = .ok (.iload_n 1, 1) := by decide +kernel
theorem dX11_told_216 : decode cX11_told 216 = .ok (.invokevirtual 176, 3) := by decide +kernel
theorem dX11_told_219 : decode cX11_told 219 = .ok (.ifCond .eq 7, 3) := by decide +kernel
theorem dX11_told_222 : decode cX11_told 222 = .ok (.iconst 1, 1) := by decide +kernel
theorem dX11_told_223 : decode cX11_told 223 = .ok (.goto 4, 3) := by decide +kernel
theorem dX11_told_226 : decode cX11_told 226 = .ok (.iconst 0, 1) := by decide +kernel
theorem dX11_told_227 : decode cX11_told 227 = .ok (.ireturn, 1) := by decide +kernel
theorem dX11_told_228 : decode cX11_told 228 = .ok (.aload_n 0, 1) := by decide +kernel
theorem dX11_told_229 : decode cX11_told 229 = .ok (.getfield 57, 3) := by decide +kernel
theorem dX11_told_232 : decode cX11_told 232 = .ok (.iload_n 1, 1) := by decide +kernel
theorem dX11_told_233 : decode cX11_told 233 = .ok (.invokevirtual 179, 3) := by decide +kernel
theorem dX11_told_236 : decode cX11_told 236 = .ok (.ifCond .eq 7, 3) := by decide +kernel
theorem dX11_told_239 : decode cX11_told 239 = .ok (.iconst 1, 1) := by decide +kernel
theorem dX11_told_240 : decode cX11_told 240 = .ok (.goto 4, 3) := by decide +kernel
theorem dX11_told_243 : decode cX11_told 243 = .ok (.iconst 0, 1) := by decide +kernel
theorem dX11_told_244 : decode cX11_told 244 = .ok (.ireturn, 1) := by decide +kernel
theorem dX11_told_245 : decode cX11_told 245 = .ok (.aload_n 0, 1) := by decide +kernel
theorem dX11_told_246 : decode cX11_told 246 = .ok (.getfield 57, 3) := by decide +kernel
theorem dX11_told_249 : decode cX11_told 249 = .ok (.iload_n 1, 1) := by decide +kernel
theorem dX11_told_250 : decode cX11_told 250 = .ok (.invokevirtual 164, 3) := by decide +kernel
theorem dX11_told_253 : decode cX11_told 253 = .ok (.ifCond .eq 14, 3) := by decide +kernel
theorem dX11_told_256 : decode cX11_told 256 = .ok (.aload_n 0, 1) := by decide +kernel
theorem dX11_told_257 : decode cX11_told 257 = .ok (.getfield 57, 3) := by decide +kernel
theorem dX11_told_260 : decode cX11_told 260 = .ok (.iload_n 1, 1) := by decide +kernel
theorem dX11_told_261 : decode cX11_told 261 = .ok (.invokevirtual 182, 3) := by decide +kernel
theorem dX11_told_264 : decode cX11_told 264 = .ok (.goto 5, 3) := by decide +kernel
theorem dX11_told_267 : decode cX11_told 267 = .ok (.bipush (-2), 2) := by decide +kernel
theorem dX11_told_269 : decode cX11_told 269 = .ok (.ireturn, 1) := by decide +kernel
theorem dX11_told_270 : decode cX11_told 270 = .ok (.iconst (-1), 1) := by decide +kernel
theorem dX11_told_271 : decode cX11_told 271 = .ok (.ireturn, 1) := by decide +kernel
theorem dX11_slot_0 : decode cX11_slot 0 = .ok (.iload_n 1, 1) := by decide +kernel
theorem dX11_slot_1 : decode cX11_slot 1 = .ok (.ifCond .ge 5, 3) := by decide +kernel
theorem dX11_slot_4 : decode cX11_slot 4 = .ok (.iconst (-1), 1) := by decide +kernel
theorem dX11_slot_5 : decode cX11_slot 5 = .ok (.ireturn, 1) := by decide +kernel
theorem dX11_slot_6 : decode cX11_slot 6 = .ok (.aload_n 0, 1) := by decide +kernel
theorem dX11_slot_7 : decode cX11_slot 7 = .ok (.getfield 57, 3) := by decide +kernel
theorem dX11_slot_10 : decode cX11_slot 10 = .ok (.getfield 125, 3) := by decide +kernel
theorem dX11_slot_13 : decode cX11_slot 13 = .ok (.iload_n 1, 1) := by decide +kernel
theorem dX11_slot_14 : decode cX11_slot 14 = .ok (.invokevirtual 185, 3) := by decide +kernel
theorem dX11_slot_17 : decode cX11_slot 17 = .ok (.ireturn, 1) := by decide +kernel
theorem dX11_at_0 : decode cX11_at 0 = .ok (.iload_n 1, 1) := by decide +kernel
theorem dX11_at_1 : decode cX11_at 1 = .ok (.invokestatic 188, 3) := by decide +kernel
theorem dX11_at_4 : decode cX11_at 4 = .ok (.ifCond .ne 5, 3) := by decide +kernel
theorem dX11_at_7 : decode cX11_at 7 = .ok (.iconst (-1), 1) := by decide +kernel
theorem dX11_at_8 : decode cX11_at 8 = .ok (.ireturn, 1) := by decide +kernel
theorem dX11_at_9 : decode cX11_at 9 = .ok (.aload_n 0, 1) := by decide +kernel
theorem dX11_at_10 : decode cX11_at 10 = .ok (.getfield 57, 3) := by decide +kernel
theorem dX11_at_13 : decode cX11_at 13 = .ok (.iload_n 1, 1) := by decide +kernel
theorem dX11_at_14 : decode cX11_at 14 = .ok (.invokevirtual 191, 3) := by decide +kernel
theorem dX11_at_17 : decode cX11_at 17 = .ok (.istore_n 2, 1) := by decide +kernel
theorem dX11_at_18 : decode cX11_at 18 = .ok (.iload_n 2, 1) := by decide +kernel
theorem dX11_at_19 : decode cX11_at 19 = .ok (.iconst (-1), 1) := by decide +kernel
theorem dX11_at_20 : decode cX11_at 20 = .ok (.if_icmp .eq 5, 3) := by decide +kernel
theorem dX11_at_23 : decode cX11_at 23 = .ok (.iload_n 2, 1) := by decide +kernel
theorem dX11_at_24 : decode cX11_at 24 = .ok (.ireturn, 1) := by decide +kernel
theorem dX11_at_25 : decode cX11_at 25 = .ok (.aload_n 0, 1) := by decide +kernel
theorem dX11_at_26 : decode cX11_at 26 = .ok (.getfield 57, 3) := by decide +kernel
theorem dX11_at_29 : decode cX11_at 29 = .ok (.getfield 194, 3) := by decide +kernel
theorem dX11_at_32 : decode cX11_at 32 = .ok (.iload_n 1, 1) := by decide +kernel
theorem dX11_at_33 : decode cX11_at 33 = .ok (.invokevirtual 198, 3) := by decide +kernel
theorem dX11_at_36 : decode cX11_at 36 = .ok (.iconst (-1), 1) := by decide +kernel
theorem dX11_at_37 : decode cX11_at 37 = .ok (.if_icmp .eq 6, 3) := by decide +kernel
theorem dX11_at_40 : decode cX11_at 40 = .ok (.bipush (-3), 2) := by decide +kernel
theorem dX11_at_42 : decode cX11_at 42 = .ok (.ireturn, 1) := by decide +kernel
theorem dX11_at_43 : decode cX11_at 43 = .ok (.aload_n 0, 1) := by decide +kernel
theorem dX11_at_44 : decode cX11_at 44 = .ok (.getfield 57, 3) := by decide +kernel
theorem dX11_at_47 : decode cX11_at 47 = .ok (.getfield 125, 3) := by decide +kernel
theorem dX11_at_50 : decode cX11_at 50 = .ok (.iload_n 1, 1) := by decide +kernel
theorem dX11_at_51 : decode cX11_at 51 = .ok (.invokevirtual 203, 3) := by decide +kernel
theorem dX11_at_54 : decode cX11_at 54 = .ok (.ifCond .eq 8, 3) := by decide +kernel
theorem dX11_at_57 : decode cX11_at 57 = .ok (.bipush (-2), 2) := by decide +kernel
theorem dX11_at_59 : decode cX11_at 59 = .ok (.goto 5, 3) := by decide +kernel
theorem dX11_at_62 : decode cX11_at 62 = .ok (.bipush (-4), 2) := by decide +kernel
theorem dX11_at_64 : decode cX11_at 64 = .ok (.ireturn, 1) := by decide +kernel
theorem dX11_plan_0 : decode cX11_plan 0 = .ok (.aload_n 0, 1) := by decide +kernel
theorem dX11_plan_1 : decode cX11_plan 1 = .ok (.getfield 57, 3) := by decide +kernel
theorem dX11_plan_4 : decode cX11_plan 4 = .ok (.getfield 87, 3) := by decide +kernel
theorem dX11_plan_7 : decode cX11_plan 7 = .ok (.getfield 90, 3) := by decide +kernel
theorem dX11_plan_10 : decode cX11_plan 10 = .ok (.ifCond .ne 6, 3) := by decide +kernel
theorem dX11_plan_13 : decode cX11_plan 13 = .ok (.bipush (-2), 2) := by decide +kernel
theorem dX11_plan_15 : decode cX11_plan 15 = .ok (.ireturn, 1) := by decide +kernel
theorem dX11_plan_16 : decode cX11_plan 16 = .ok (.aload_n 0, 1) := by decide +kernel
theorem dX11_plan_17 : decode cX11_plan 17 = .ok (.getfield 43, 3) := by decide +kernel
theorem dX11_plan_20 : decode cX11_plan 20 = .ok (.aload_n 0, 1) := by decide +kernel
theorem dX11_plan_21 : decode cX11_plan 21 = .ok (.getfield 57, 3) := by decide +kernel
theorem dX11_plan_24 : decode cX11_plan 24 = .ok (.iconst 0, 1) := by decide +kernel
theorem dX11_plan_25 : decode cX11_plan 25 = .ok (.invokevirtual 206, 3) := by decide +kernel
theorem dX11_plan_28 : decode cX11_plan 28 = .ok (.aload_n 0, 1) := by decide +kernel
theorem dX11_plan_29 : decode cX11_plan 29 = .ok (.getfield 57, 3) := by decide +kernel
theorem dX11_plan_32 : decode cX11_plan 32 = .ok (.invokevirtual 210, 3) := by decide +kernel
theorem dX11_plan_35 : decode cX11_plan 35 = .ok (.ireturn, 1) := by decide +kernel
theorem dX11_revise_0 : decode cX11_revise 0 = .ok (.aload_n 0, 1) := by decide +kernel
theorem dX11_revise_1 : decode cX11_revise 1 = .ok (.getfield 57, 3) := by decide +kernel
theorem dX11_revise_4 : decode cX11_revise 4 = .ok (.getfield 214, 3) := by decide +kernel
theorem dX11_revise_7 : decode cX11_revise 7 = .ok (.ifCond .ne 6, 3) := by decide +kernel
theorem dX11_revise_10 : decode cX11_revise 10 = .ok (.bipush (-2), 2) := by decide +kernel
theorem dX11_revise_12 : decode cX11_revise 12 = .ok (.ireturn, 1) := by decide +kernel
theorem dX11_revise_13 : decode cX11_revise 13 = .ok (.aload_n 0, 1) := by decide +kernel
theorem dX11_revise_14 : decode cX11_revise 14 = .ok (.getfield 43, 3) := by decide +kernel
theorem dX11_revise_17 : decode cX11_revise 17 = .ok (.aload_n 0, 1) := by decide +kernel
theorem dX11_revise_18 : decode cX11_revise 18 = .ok (.getfield 57, 3) := by decide +kernel
theorem dX11_revise_21 : decode cX11_revise 21 = .ok (.invokevirtual 218, 3) := by decide +kernel
theorem dX11_revise_24 : decode cX11_revise 24 = .ok (.ireturn, 1) := by decide +kernel
theorem dX11_cancel_0 : decode cX11_cancel 0 = .ok (.aload_n 0, 1) := by decide +kernel
theorem dX11_cancel_1 : decode cX11_cancel 1 = .ok (.getfield 57, 3) := by decide +kernel
theorem dX11_cancel_4 : decode cX11_cancel 4 = .ok (.iload_n 1, 1) := by decide +kernel
theorem dX11_cancel_5 : decode cX11_cancel 5 = .ok (.invokevirtual 145, 3) := by decide +kernel
theorem dX11_cancel_8 : decode cX11_cancel 8 = .ok (.ifCond .ne 5, 3) := by decide +kernel
theorem dX11_cancel_11 : decode cX11_cancel 11 = .ok (.iconst (-1), 1) := by decide +kernel
theorem dX11_cancel_12 : decode cX11_cancel 12 = .ok (.ireturn, 1) := by decide +kernel
theorem dX11_cancel_13 : decode cX11_cancel 13 = .ok (.aload_n 0, 1) := by decide +kernel
theorem dX11_cancel_14 : decode cX11_cancel 14 = .ok (.getfield 57, 3) := by decide +kernel
theorem dX11_cancel_17 : decode cX11_cancel 17 = .ok (.iload_n 1, 1) := by decide +kernel
theorem dX11_cancel_18 : decode cX11_cancel 18 = .ok (.invokevirtual 164, 3) := by decide +kernel
theorem dX11_cancel_21 : decode cX11_cancel 21 = .ok (.ifCond .ne 6, 3) := by decide +kernel
theorem dX11_cancel_24 : decode cX11_cancel 24 = .ok (.bipush (-2), 2) := by decide +kernel
theorem dX11_cancel_26 : decode cX11_cancel 26 = .ok (.ireturn, 1) := by decide +kernel
theorem dX11_cancel_27 : decode cX11_cancel 27 = .ok (.aload_n 0, 1) := by decide +kernel
theorem dX11_cancel_28 : decode cX11_cancel 28 = .ok (.getfield 57, 3) := by decide +kernel
theorem dX11_cancel_31 : decode cX11_cancel 31 = .ok (.iload_n 1, 1) := by decide +kernel
theorem dX11_cancel_32 : decode cX11_cancel 32 = .ok (.invokevirtual 176, 3) := by decide +kernel
theorem dX11_cancel_35 : decode cX11_cancel 35 = .ok (.ifCond .eq 6, 3) := by decide +kernel
theorem dX11_cancel_38 : decode cX11_cancel 38 = .ok (.bipush (-3), 2) := by decide +kernel
theorem dX11_cancel_40 : decode cX11_cancel 40 = .ok (.ireturn, 1) := by decide +kernel
theorem dX11_cancel_41 : decode cX11_cancel 41 = .ok (.aload_n 0, 1) := by decide +kernel
theorem dX11_cancel_42 : decode cX11_cancel 42 = .ok (.getfield 57, 3) := by decide +kernel
theorem dX11_cancel_45 : decode cX11_cancel 45 = .ok (.iload_n 1, 1) := by decide +kernel
theorem dX11_cancel_46 : decode cX11_cancel 46 = .ok (.invokevirtual 222, 3) := by decide +kernel
theorem dX11_cancel_49 : decode cX11_cancel 49 = .ok (.ireturn, 1) := by decide +kernel
theorem dX11_exchange_0 : decode cX11_exchange 0 = .ok (.aload_n 0, 1) := by decide +kernel
theorem dX11_exchange_1 : decode cX11_exchange 1 = .ok (.getfield 57, 3) := by decide +kernel
theorem dX11_exchange_4 : decode cX11_exchange 4 = .ok (.iload_n 1, 1) := by decide +kernel
theorem dX11_exchange_5 : decode cX11_exchange 5 = .ok (.iload_n 2, 1) := by decide +kernel
theorem dX11_exchange_6 : decode cX11_exchange 6 = .ok (.invokevirtual 225, 3) := by decide +kernel
theorem dX11_exchange_9 : decode cX11_exchange 9 = .ok (.ifCond .ne 6, 3) := by decide +kernel
theorem dX11_exchange_12 : decode cX11_exchange 12 = .ok (.ldc 228, 2) := by decide +kernel
theorem dX11_exchange_14 : decode cX11_exchange 14 = .ok (.ireturn, 1) := by decide +kernel
theorem dX11_exchange_15 : decode cX11_exchange 15 = .ok (.aload_n 0, 1) := by decide +kernel
theorem dX11_exchange_16 : decode cX11_exchange 16 = .ok (.getfield 57, 3) := by decide +kernel
theorem dX11_exchange_19 : decode cX11_exchange 19 = .ok (.iload_n 1, 1) := by decide +kernel
theorem dX11_exchange_20 : decode cX11_exchange 20 = .ok (.invokevirtual 182, 3) := by decide +kernel
theorem dX11_exchange_23 : decode cX11_exchange 23 = .ok (.aload_n 0, 1) := by decide +kernel
theorem dX11_exchange_24 : decode cX11_exchange 24 = .ok (.getfield 57, 3) := by decide +kernel
theorem dX11_exchange_27 : decode cX11_exchange 27 = .ok (.iload_n 2, 1) := by decide +kernel
theorem dX11_exchange_28 : decode cX11_exchange 28 = .ok (.invokevirtual 182, 3) := by decide +kernel
theorem dX11_exchange_31 : decode cX11_exchange 31 = .ok (.iadd, 1) := by decide +kernel
theorem dX11_exchange_32 : decode cX11_exchange 32 = .ok (.istore_n 3, 1) := by decide +kernel
theorem dX11_exchange_33 : decode cX11_exchange 33 = .ok (.aload_n 0, 1) := by decide +kernel
theorem dX11_exchange_34 : decode cX11_exchange 34 = .ok (.getfield 57, 3) := by decide +kernel
theorem dX11_exchange_37 : decode cX11_exchange 37 = .ok (.iload_n 1, 1) := by decide +kernel
theorem dX11_exchange_38 : decode cX11_exchange 38 = .ok (.iload_n 2, 1) := by decide +kernel
theorem dX11_exchange_39 : decode cX11_exchange 39 = .ok (.invokevirtual 229, 3) := by decide +kernel
theorem dX11_exchange_42 : decode cX11_exchange 42 = .ok (.iload_n 3, 1) := by decide +kernel
theorem dX11_exchange_43 : decode cX11_exchange 43 = .ok (.aload_n 0, 1) := by decide +kernel
theorem dX11_exchange_44 : decode cX11_exchange 44 = .ok (.getfield 57, 3) := by decide +kernel
theorem dX11_exchange_47 : decode cX11_exchange 47 = .ok (.iload_n 1, 1) := by decide +kernel
theorem dX11_exchange_48 : decode cX11_exchange 48 = .ok (.invokevirtual 182, 3) := by decide +kernel
theorem dX11_exchange_51 : decode cX11_exchange 51 = .ok (.isub, 1) := by decide +kernel
theorem dX11_exchange_52 : decode cX11_exchange 52 = .ok (.aload_n 0, 1) := by decide +kernel
theorem dX11_exchange_53 : decode cX11_exchange 53 = .ok (.getfield 57, 3) := by decide +kernel
theorem dX11_exchange_56 : decode cX11_exchange 56 = .ok (.iload_n 2, 1) := by decide +kernel
theorem dX11_exchange_57 : decode cX11_exchange 57 = .ok (.invokevirtual 182, 3) := by decide +kernel
theorem dX11_exchange_60 : decode cX11_exchange 60 = .ok (.isub, 1) := by decide +kernel
theorem dX11_exchange_61 : decode cX11_exchange 61 = .ok (.ireturn, 1) := by decide +kernel
theorem dX11_move_0 : decode cX11_move 0 = .ok (.aload_n 0, 1) := by decide +kernel
theorem dX11_move_1 : decode cX11_move 1 = .ok (.getfield 57, 3) := by decide +kernel
theorem dX11_move_4 : decode cX11_move 4 = .ok (.iload_n 1, 1) := by decide +kernel
theorem dX11_move_5 : decode cX11_move 5 = .ok (.invokevirtual 145, 3) := by decide +kernel
theorem dX11_move_8 : decode cX11_move 8 = .ok (.ifCond .eq 10, 3) := by decide +kernel
theorem dX11_move_11 : decode cX11_move 11 = .ok (.iload_n 2, 1) := by decide +kernel
theorem dX11_move_12 : decode cX11_move 12 = .ok (.invokestatic 188, 3) := by decide +kernel
theorem dX11_move_15 : decode cX11_move 15 = .ok (.ifCond .ne 5, 3) := by decide +kernel
theorem dX11_move_18 : decode cX11_move 18 = .ok (.iconst (-1), 1) := by decide +kernel
theorem dX11_move_19 : decode cX11_move 19 = .ok (.ireturn, 1) := by decide +kernel
theorem dX11_move_20 : decode cX11_move 20 = .ok (.aload_n 0, 1) := by decide +kernel
theorem dX11_move_21 : decode cX11_move 21 = .ok (.getfield 57, 3) := by decide +kernel
theorem dX11_move_24 : decode cX11_move 24 = .ok (.getfield 194, 3) := by decide +kernel
theorem dX11_move_27 : decode cX11_move 27 = .ok (.iload_n 2, 1) := by decide +kernel
theorem dX11_move_28 : decode cX11_move 28 = .ok (.invokevirtual 198, 3) := by decide +kernel
theorem dX11_move_31 : decode cX11_move 31 = .ok (.istore_n 3, 1) := by decide +kernel
theorem dX11_move_32 : decode cX11_move 32 = .ok (.iload_n 3, 1) := by decide +kernel
theorem dX11_move_33 : decode cX11_move 33 = .ok (.iconst (-1), 1) := by decide +kernel
theorem dX11_move_34 : decode cX11_move 34 = .ok (.if_icmp .eq 26, 3) := by decide +kernel
theorem dX11_move_37 : decode cX11_move 37 = .ok (.aload_n 0, 1) := by decide +kernel
theorem dX11_move_38 : decode cX11_move 38 = .ok (.getfield 57, 3) := by decide +kernel
theorem dX11_move_41 : decode cX11_move 41 = .ok (.iload_n 1, 1) := by decide +kernel
theorem dX11_move_42 : decode cX11_move 42 = .ok (.invokevirtual 232, 3) := by decide +kernel
theorem dX11_move_45 : decode cX11_move 45 = .ok (.ifCond .eq 15, 3) := by decide +kernel
theorem dX11_move_48 : decode cX11_move 48 = .ok (.iload_n 2, 1) := by decide +kernel
theorem dX11_move_49 : decode cX11_move 49 = .ok (.aload_n 0, 1) := by decide +kernel
theorem dX11_move_50 : decode cX11_move 50 = .ok (.getfield 57, 3) := by decide +kernel
theorem dX11_move_53 : decode cX11_move 53 = .ok (.iload_n 1, 1) := by decide +kernel
theorem dX11_move_54 : decode cX11_move 54 = .ok (.invokevirtual 161, 3) := by decide +kernel
theorem dX11_move_57 : decode cX11_move 57 = .ok (.if_icmp .ge 6, 3) := by decide +kernel
theorem dX11_move_60 : decode cX11_move 60 = .ok (.bipush (-2), 2) := by decide +kernel
theorem dX11_move_62 : decode cX11_move 62 = .ok (.ireturn, 1) := by decide +kernel
theorem dX11_move_63 : decode cX11_move 63 = .ok (.aload_n 0, 1) := by decide +kernel
theorem dX11_move_64 : decode cX11_move 64 = .ok (.getfield 57, 3) := by decide +kernel
theorem dX11_move_67 : decode cX11_move 67 = .ok (.iload_n 1, 1) := by decide +kernel
theorem dX11_move_68 : decode cX11_move 68 = .ok (.aload_n 0, 1) := by decide +kernel
theorem dX11_move_69 : decode cX11_move 69 = .ok (.getfield 57, 3) := by decide +kernel
theorem dX11_move_72 : decode cX11_move 72 = .ok (.getfield 194, 3) := by decide +kernel
theorem dX11_move_75 : decode cX11_move 75 = .ok (.iload_n 3, 1) := by decide +kernel
theorem dX11_move_76 : decode cX11_move 76 = .ok (.invokevirtual 235, 3) := by decide +kernel
theorem dX11_move_79 : decode cX11_move 79 = .ok (.invokevirtual 238, 3) := by decide +kernel
theorem dX11_move_82 : decode cX11_move 82 = .ok (.ifCond .ne 6, 3) := by decide +kernel
theorem dX11_move_85 : decode cX11_move 85 = .ok (.bipush (-2), 2) := by decide +kernel
theorem dX11_move_87 : decode cX11_move 87 = .ok (.ireturn, 1) := by decide +kernel
theorem dX11_move_88 : decode cX11_move 88 = .ok (.aload_n 0, 1) := by decide +kernel
theorem dX11_move_89 : decode cX11_move 89 = .ok (.getfield 57, 3) := by decide +kernel
theorem dX11_move_92 : decode cX11_move 92 = .ok (.iload_n 1, 1) := by decide +kernel
theorem dX11_move_93 : decode cX11_move 93 = .ok (.iload_n 3, 1) := by decide +kernel
theorem dX11_move_94 : decode cX11_move 94 = .ok (.invokevirtual 241, 3) := by decide +kernel
theorem dX11_move_97 : decode cX11_move 97 = .ok (.ireturn, 1) := by decide +kernel
theorem dX11_fill_0 : decode cX11_fill 0 = .ok (.aload_n 0, 1) := by decide +kernel
theorem dX11_fill_1 : decode cX11_fill 1 = .ok (.getfield 57, 3) := by decide +kernel
theorem dX11_fill_4 : decode cX11_fill 4 = .ok (.invokevirtual 245, 3) := by decide +kernel
theorem dX11_fill_7 : decode cX11_fill 7 = .ok (.ireturn, 1) := by decide +kernel
theorem dX11_vacant_0 : decode cX11_vacant 0 = .ok (.iload_n 1, 1) := by decide +kernel
theorem dX11_vacant_1 : decode cX11_vacant 1 = .ok (.ifCond .lt 12, 3) := by decide +kernel
theorem dX11_vacant_4 : decode cX11_vacant 4 = .ok (.iload_n 2, 1) := by decide +kernel
theorem dX11_vacant_5 : decode cX11_vacant 5 = .ok (.ifCond .lt 8, 3) := by decide +kernel
theorem dX11_vacant_8 : decode cX11_vacant 8 = .ok (.iload_n 2, 1) := by decide +kernel
theorem dX11_vacant_9 : decode cX11_vacant 9 = .ok (.iconst 1, 1) := by decide +kernel
theorem dX11_vacant_10 : decode cX11_vacant 10 = .ok (.if_icmp .le 5, 3) := by decide +kernel
theorem dX11_vacant_13 : decode cX11_vacant 13 = .ok (.iconst (-1), 1) := by decide +kernel
theorem dX11_vacant_14 : decode cX11_vacant 14 = .ok (.ireturn, 1) := by decide +kernel
theorem dX11_vacant_15 : decode cX11_vacant 15 = .ok (.iload_n 1, 1) := by decide +kernel
theorem dX11_vacant_16 : decode cX11_vacant 16 = .ok (.aload_n 0, 1) := by decide +kernel
theorem dX11_vacant_17 : decode cX11_vacant 17 = .ok (.getfield 57, 3) := by decide +kernel
theorem dX11_vacant_20 : decode cX11_vacant 20 = .ok (.getfield 194, 3) := by decide +kernel
theorem dX11_vacant_23 : decode cX11_vacant 23 = .ok (.getfield 248, 3) := by decide +kernel
theorem dX11_vacant_26 : decode cX11_vacant 26 = .ok (.if_icmp .lt 6, 3) := by decide +kernel
theorem dX11_vacant_29 : decode cX11_vacant 29 = .ok (.bipush (-2), 2) := by decide +kernel
theorem dX11_vacant_31 : decode cX11_vacant 31 = .ok (.ireturn, 1) := by decide +kernel
theorem dX11_vacant_32 : decode cX11_vacant 32 = .ok (.iload_n 2, 1) := by decide +kernel
theorem dX11_vacant_33 : decode cX11_vacant 33 = .ok (.ifCond .ne 17, 3) := by decide +kernel
theorem dX11_vacant_36 : decode cX11_vacant 36 = .ok (.aload_n 0, 1) := by decide +kernel
theorem dX11_vacant_37 : decode cX11_vacant 37 = .ok (.getfield 57, 3) := by decide +kernel
theorem dX11_vacant_40 : decode cX11_vacant 40 = .ok (.getfield 194, 3) := by decide +kernel
theorem dX11_vacant_43 : decode cX11_vacant 43 = .ok (.iload_n 1, 1) := by decide +kernel
theorem dX11_vacant_44 : decode cX11_vacant 44 = .ok (.invokevirtual 249, 3) := by decide +kernel
theorem dX11_vacant_47 : decode cX11_vacant 47 = .ok (.goto 14, 3) := by decide +kernel
theorem dX11_vacant_50 : decode cX11_vacant 50 = .ok (.aload_n 0, 1) := by decide +kernel
theorem dX11_vacant_51 : decode cX11_vacant 51 = .ok (.getfield 57, 3) := by decide +kernel
theorem dX11_vacant_54 : decode cX11_vacant 54 = .ok (.getfield 194, 3) := by decide +kernel
theorem dX11_vacant_57 : decode cX11_vacant 57 = .ok (.iload_n 1, 1) := by decide +kernel
theorem dX11_vacant_58 : decode cX11_vacant 58 = .ok (.invokevirtual 235, 3) := by decide +kernel
theorem dX11_vacant_61 : decode cX11_vacant 61 = .ok (.ireturn, 1) := by decide +kernel
theorem dX11_offer_0 : decode cX11_offer 0 = .ok (.aload_n 0, 1) := by decide +kernel
theorem dX11_offer_1 : decode cX11_offer 1 = .ok (.getfield 57, 3) := by decide +kernel
theorem dX11_offer_4 : decode cX11_offer 4 = .ok (.iload_n 1, 1) := by decide +kernel
theorem dX11_offer_5 : decode cX11_offer 5 = .ok (.invokevirtual 145, 3) := by decide +kernel
theorem dX11_offer_8 : decode cX11_offer 8 = .ok (.ifCond .eq 19, 3) := by decide +kernel
theorem dX11_offer_11 : decode cX11_offer 11 = .ok (.aload_n 0, 1) := by decide +kernel
theorem dX11_offer_12 : decode cX11_offer 12 = .ok (.getfield 57, 3) := by decide +kernel
theorem dX11_offer_15 : decode cX11_offer 15 = .ok (.iload_n 3, 1) := by decide +kernel
theorem dX11_offer_16 : decode cX11_offer 16 = .ok (.invokevirtual 145, 3) := by decide +kernel
theorem dX11_offer_19 : decode cX11_offer 19 = .ok (.ifCond .eq 8, 3) := by decide +kernel
theorem dX11_offer_22 : decode cX11_offer 22 = .ok (.iload_n 1, 1) := by decide +kernel
theorem dX11_offer_23 : decode cX11_offer 23 = .ok (.iload_n 3, 1) := by decide +kernel
theorem dX11_offer_24 : decode cX11_offer 24 = .ok (.if_icmp .ne 5, 3) := by decide +kernel
theorem dX11_offer_27 : decode cX11_offer 27 = .ok (.iconst (-1), 1) := by decide +kernel
theorem dX11_offer_28 : decode cX11_offer 28 = .ok (.ireturn, 1) := by decide +kernel
theorem dX11_offer_29 : decode cX11_offer 29 = .ok (.iload_n 2, 1) := by decide +kernel
theorem dX11_offer_30 : decode cX11_offer 30 = .ok (.invokestatic 188, 3) := by decide +kernel
theorem dX11_offer_33 : decode cX11_offer 33 = .ok (.ifCond .eq 11, 3) := by decide +kernel
theorem dX11_offer_36 : decode cX11_offer 36 = .ok (.iload 4, 2) := by decide +kernel
theorem dX11_offer_38 : decode cX11_offer 38 = .ok (.invokestatic 188, 3) := by decide +kernel
theorem dX11_offer_41 : decode cX11_offer 41 = .ok (.ifCond .ne 5, 3) := by decide +kernel
theorem dX11_offer_44 : decode cX11_offer 44 = .ok (.iconst (-1), 1) := by decide +kernel
theorem dX11_offer_45 : decode cX11_offer 45 = .ok (.ireturn, 1) := by decide +kernel
theorem dX11_offer_46 : decode cX11_offer 46 = .ok (.aload_n 0, 1) := by decide +kernel
theorem dX11_offer_47 : decode cX11_offer 47 = .ok (.getfield 57, 3) := by decide +kernel
theorem dX11_offer_50 : decode cX11_offer 50 = .ok (.iload_n 1, 1) := by decide +kernel
theorem dX11_offer_51 : decode cX11_offer 51 = .ok (.invokevirtual 232, 3) := by decide +kernel
theorem dX11_offer_54 : decode cX11_offer 54 = .ok (.ifCond .eq 29, 3) := by decide +kernel
theorem dX11_offer_57 : decode cX11_offer 57 = .ok (.aload_n 0, 1) := by decide +kernel
theorem dX11_offer_58 : decode cX11_offer 58 = .ok (.getfield 57, 3) := by decide +kernel
theorem dX11_offer_61 : decode cX11_offer 61 = .ok (.iload_n 3, 1) := by decide +kernel
theorem dX11_offer_62 : decode cX11_offer 62 = .ok (.invokevirtual 232, 3) := by decide +kernel
theorem dX11_offer_65 : decode cX11_offer 65 = .ok (.ifCond .eq 18, 3) := by decide +kernel
theorem dX11_offer_68 : decode cX11_offer 68 = .ok (.aload_n 0, 1) := by decide +kernel
theorem dX11_offer_69 : decode cX11_offer 69 = .ok (.getfield 57, 3) := by decide +kernel
theorem dX11_offer_72 : decode cX11_offer 72 = .ok (.getfield 87, 3) := by decide +kernel
theorem dX11_offer_75 : decode cX11_offer 75 = .ok (.iload_n 1, 1) := by decide +kernel
theorem dX11_offer_76 : decode cX11_offer 76 = .ok (.iload_n 3, 1) := by decide +kernel
theorem dX11_offer_77 : decode cX11_offer 77 = .ok (.invokevirtual 252, 3) := by decide +kernel
theorem dX11_offer_80 : decode cX11_offer 80 = .ok (.ifCond .ne 6, 3) := by decide +kernel
theorem dX11_offer_83 : decode cX11_offer 83 = .ok (.bipush (-2), 2) := by decide +kernel
theorem dX11_offer_85 : decode cX11_offer 85 = .ok (.ireturn, 1) := by decide +kernel
theorem dX11_offer_86 : decode cX11_offer 86 = .ok (.aload_n 0, 1) := by decide +kernel
theorem dX11_offer_87 : decode cX11_offer 87 = .ok (.getfield 57, 3) := by decide +kernel
theorem dX11_offer_90 : decode cX11_offer 90 = .ok (.getfield 255, 3) := by decide +kernel
theorem dX11_offer_93 : decode cX11_offer 93 = .ok (.invokevirtual 259, 3) := by decide +kernel
theorem dX11_offer_96 : decode cX11_offer 96 = .ok (.istore 5, 2) := by decide +kernel
theorem dX11_offer_98 : decode cX11_offer 98 = .ok (.iload 5, 2) := by decide +kernel
theorem dX11_offer_100 : decode cX11_offer 100 = .ok (.iconst (-1), 1) := by decide +kernel
theorem dX11_offer_101 : decode cX11_offer 101 = .ok (.if_icmp .ne 6, 3) := by decide +kernel
theorem dX11_offer_104 : decode cX11_offer 104 = .ok (.bipush (-3), 2) := by decide +kernel
theorem dX11_offer_106 : decode cX11_offer 106 = .ok (.ireturn, 1) := by decide +kernel
theorem dX11_offer_107 : decode cX11_offer 107 = .ok (.aload_n 0, 1) := by decide +kernel
theorem dX11_offer_108 : decode cX11_offer 108 = .ok (.getfield 57, 3) := by decide +kernel
theorem dX11_offer_111 : decode cX11_offer 111 = .ok (.getfield 255, 3) := by decide +kernel
theorem dX11_offer_114 : decode cX11_offer 114 = .ok (.iload 5, 2) := by decide +kernel
theorem dX11_offer_116 : decode cX11_offer 116 = .ok (.iload_n 1, 1) := by decide +kernel
theorem dX11_offer_117 : decode cX11_offer 117 = .ok (.iload_n 2, 1) := by decide +kernel
theorem dX11_offer_118 : decode cX11_offer 118 = .ok (.iload_n 3, 1) := by decide +kernel
theorem dX11_offer_119 : decode cX11_offer 119 = .ok (.iload 4, 2) := by decide +kernel
theorem dX11_offer_121 : decode cX11_offer 121 = .ok (.invokevirtual 264, 3) := by decide +kernel
theorem dX11_offer_124 : decode cX11_offer 124 = .ok (.iload 5, 2) := by decide +kernel
theorem dX11_offer_126 : decode cX11_offer 126 = .ok (.ireturn, 1) := by decide +kernel
theorem dX11_withdraw_0 : decode cX11_withdraw 0 = .ok (.aload_n 0, 1) := by decide +kernel
theorem dX11_withdraw_1 : decode cX11_withdraw 1 = .ok (.getfield 57, 3) := by decide +kernel
theorem dX11_withdraw_4 : decode cX11_withdraw 4 = .ok (.getfield 255, 3) := by decide +kernel
theorem dX11_withdraw_7 : decode cX11_withdraw 7 = .ok (.iload_n 1, 1) := by decide +kernel
theorem dX11_withdraw_8 : decode cX11_withdraw 8 = .ok (.invokevirtual 267, 3) := by decide +kernel
theorem dX11_withdraw_11 : decode cX11_withdraw 11 = .ok (.ifCond .ne 5, 3) := by decide +kernel
theorem dX11_withdraw_14 : decode cX11_withdraw 14 = .ok (.iconst 0, 1) := by decide +kernel
theorem dX11_withdraw_15 : decode cX11_withdraw 15 = .ok (.ireturn, 1) := by decide +kernel
theorem dX11_withdraw_16 : decode cX11_withdraw 16 = .ok (.aload_n 0, 1) := by decide +kernel
theorem dX11_withdraw_17 : decode cX11_withdraw 17 = .ok (.getfield 57, 3) := by decide +kernel
theorem dX11_withdraw_20 : decode cX11_withdraw 20 = .ok (.getfield 255, 3) := by decide +kernel
theorem dX11_withdraw_23 : decode cX11_withdraw 23 = .ok (.iload_n 1, 1) := by decide +kernel
theorem dX11_withdraw_24 : decode cX11_withdraw 24 = .ok (.invokevirtual 270, 3) := by decide +kernel
theorem dX11_withdraw_27 : decode cX11_withdraw 27 = .ok (.iconst 1, 1) := by decide +kernel
theorem dX11_withdraw_28 : decode cX11_withdraw 28 = .ok (.ireturn, 1) := by decide +kernel
theorem dX11_offered_0 : decode cX11_offered 0 = .ok (.aload_n 0, 1) := by decide +kernel
theorem dX11_offered_1 : decode cX11_offered 1 = .ok (.getfield 57, 3) := by decide +kernel
theorem dX11_offered_4 : decode cX11_offered 4 = .ok (.getfield 255, 3) := by decide +kernel
theorem dX11_offered_7 : decode cX11_offered 7 = .ok (.iload_n 1, 1) := by decide +kernel
theorem dX11_offered_8 : decode cX11_offered 8 = .ok (.invokevirtual 267, 3) := by decide +kernel
theorem dX11_offered_11 : decode cX11_offered 11 = .ok (.ifCond .ne 5, 3) := by decide +kernel
theorem dX11_offered_14 : decode cX11_offered 14 = .ok (.iconst (-1), 1) := by decide +kernel
theorem dX11_offered_15 : decode cX11_offered 15 = .ok (.ireturn, 1) := by decide +kernel
theorem dX11_offered_16 : decode cX11_offered 16 = .ok (.iload_n 2, 1) := by decide +kernel
theorem dX11_offered_17 : decode cX11_offered 17 = .ok (.tableswitch 83 0 3 #[31, 44, 57, 70], 31) := by decide +kernel
theorem dX11_offered_48 : decode cX11_offered 48 = .ok (.aload_n 0, 1) := by decide +kernel
theorem dX11_offered_49 : decode cX11_offered 49 = .ok (.getfield 57, 3) := by decide +kernel
theorem dX11_offered_52 : decode cX11_offered 52 = .ok (.getfield 255, 3) := by decide +kernel
theorem dX11_offered_55 : decode cX11_offered 55 = .ok (.getfield 273, 3) := by decide +kernel
theorem dX11_offered_58 : decode cX11_offered 58 = .ok (.iload_n 1, 1) := by decide +kernel
theorem dX11_offered_59 : decode cX11_offered 59 = .ok (.iaload, 1) := by decide +kernel
theorem dX11_offered_60 : decode cX11_offered 60 = .ok (.ireturn, 1) := by decide +kernel
theorem dX11_offered_61 : decode cX11_offered 61 = .ok (.aload_n 0, 1) := by decide +kernel
theorem dX11_offered_62 : decode cX11_offered 62 = .ok (.getfield 57, 3) := by decide +kernel
theorem dX11_offered_65 : decode cX11_offered 65 = .ok (.getfield 255, 3) := by decide +kernel
theorem dX11_offered_68 : decode cX11_offered 68 = .ok (.getfield 276, 3) := by decide +kernel
theorem dX11_offered_71 : decode cX11_offered 71 = .ok (.iload_n 1, 1) := by decide +kernel
theorem dX11_offered_72 : decode cX11_offered 72 = .ok (.iaload, 1) := by decide +kernel
theorem dX11_offered_73 : decode cX11_offered 73 = .ok (.ireturn, 1) := by decide +kernel
theorem dX11_offered_74 : decode cX11_offered 74 = .ok (.aload_n 0, 1) := by decide +kernel
theorem dX11_offered_75 : decode cX11_offered 75 = .ok (.getfield 57, 3) := by decide +kernel
theorem dX11_offered_78 : decode cX11_offered 78 = .ok (.getfield 255, 3) := by decide +kernel
theorem dX11_offered_81 : decode cX11_offered 81 = .ok (.getfield 279, 3) := by decide +kernel
theorem dX11_offered_84 : decode cX11_offered 84 = .ok (.iload_n 1, 1) := by decide +kernel
theorem dX11_offered_85 : decode cX11_offered 85 = .ok (.iaload, 1) := by decide +kernel
theorem dX11_offered_86 : decode cX11_offered 86 = .ok (.ireturn, 1) := by decide +kernel
theorem dX11_offered_87 : decode cX11_offered 87 = .ok (.aload_n 0, 1) := by decide +kernel
theorem dX11_offered_88 : decode cX11_offered 88 = .ok (.getfield 57, 3) := by decide +kernel
theorem dX11_offered_91 : decode cX11_offered 91 = .ok (.getfield 255, 3) := by decide +kernel
theorem dX11_offered_94 : decode cX11_offered 94 = .ok (.getfield 282, 3) := by decide +kernel
theorem dX11_offered_97 : decode cX11_offered 97 = .ok (.iload_n 1, 1) := by decide +kernel
theorem dX11_offered_98 : decode cX11_offered 98 = .ok (.iaload, 1) := by decide +kernel
theorem dX11_offered_99 : decode cX11_offered 99 = .ok (.ireturn, 1) := by decide +kernel
theorem dX11_offered_100 : decode cX11_offered 100 = .ok (.iconst (-1), 1) := by decide +kernel
theorem dX11_offered_101 : decode cX11_offered 101 = .ok (.ireturn, 1) := by decide +kernel
theorem dX11_deal_0 : decode cX11_deal 0 = .ok (.aload_n 0, 1) := by decide +kernel
theorem dX11_deal_1 : decode cX11_deal 1 = .ok (.getfield 57, 3) := by decide +kernel
theorem dX11_deal_4 : decode cX11_deal 4 = .ok (.iload_n 1, 1) := by decide +kernel
theorem dX11_deal_5 : decode cX11_deal 5 = .ok (.iload_n 2, 1) := by decide +kernel
theorem dX11_deal_6 : decode cX11_deal 6 = .ok (.invokevirtual 285, 3) := by decide +kernel
theorem dX11_deal_9 : decode cX11_deal 9 = .ok (.ifCond .ne 6, 3) := by decide +kernel
theorem dX11_deal_12 : decode cX11_deal 12 = .ok (.ldc 228, 2) := by decide +kernel
theorem dX11_deal_14 : decode cX11_deal 14 = .ok (.ireturn, 1) := by decide +kernel
theorem dX11_deal_15 : decode cX11_deal 15 = .ok (.aload_n 0, 1) := by decide +kernel
theorem dX11_deal_16 : decode cX11_deal 16 = .ok (.getfield 57, 3) := by decide +kernel
theorem dX11_deal_19 : decode cX11_deal 19 = .ok (.iload_n 1, 1) := by decide +kernel
theorem dX11_deal_20 : decode cX11_deal 20 = .ok (.iload_n 2, 1) := by decide +kernel
theorem dX11_deal_21 : decode cX11_deal 21 = .ok (.invokevirtual 288, 3) := by decide +kernel
theorem dX11_deal_24 : decode cX11_deal 24 = .ok (.istore_n 3, 1) := by decide +kernel
theorem dX11_deal_25 : decode cX11_deal 25 = .ok (.aload_n 0, 1) := by decide +kernel
theorem dX11_deal_26 : decode cX11_deal 26 = .ok (.getfield 57, 3) := by decide +kernel
theorem dX11_deal_29 : decode cX11_deal 29 = .ok (.iload_n 1, 1) := by decide +kernel
theorem dX11_deal_30 : decode cX11_deal 30 = .ok (.iload_n 2, 1) := by decide +kernel
theorem dX11_deal_31 : decode cX11_deal 31 = .ok (.invokevirtual 291, 3) := by decide +kernel
theorem dX11_deal_34 : decode cX11_deal 34 = .ok (.aload_n 0, 1) := by decide +kernel
theorem dX11_deal_35 : decode cX11_deal 35 = .ok (.getfield 57, 3) := by decide +kernel
theorem dX11_deal_38 : decode cX11_deal 38 = .ok (.iload_n 2, 1) := by decide +kernel
theorem dX11_deal_39 : decode cX11_deal 39 = .ok (.iload_n 1, 1) := by decide +kernel
theorem dX11_deal_40 : decode cX11_deal 40 = .ok (.invokevirtual 291, 3) := by decide +kernel
theorem dX11_deal_43 : decode cX11_deal 43 = .ok (.aload_n 0, 1) := by decide +kernel
theorem dX11_deal_44 : decode cX11_deal 44 = .ok (.getfield 57, 3) := by decide +kernel
theorem dX11_deal_47 : decode cX11_deal 47 = .ok (.getfield 255, 3) := by decide +kernel
theorem dX11_deal_50 : decode cX11_deal 50 = .ok (.iload_n 1, 1) := by decide +kernel
theorem dX11_deal_51 : decode cX11_deal 51 = .ok (.invokevirtual 270, 3) := by decide +kernel
theorem dX11_deal_54 : decode cX11_deal 54 = .ok (.aload_n 0, 1) := by decide +kernel
theorem dX11_deal_55 : decode cX11_deal 55 = .ok (.getfield 57, 3) := by decide +kernel
theorem dX11_deal_58 : decode cX11_deal 58 = .ok (.getfield 255, 3) := by decide +kernel
theorem dX11_deal_61 : decode cX11_deal 61 = .ok (.iload_n 2, 1) := by decide +kernel
theorem dX11_deal_62 : decode cX11_deal 62 = .ok (.invokevirtual 270, 3) := by decide +kernel
theorem dX11_deal_65 : decode cX11_deal 65 = .ok (.iload_n 3, 1) := by decide +kernel
theorem dX11_deal_66 : decode cX11_deal 66 = .ok (.ireturn, 1) := by decide +kernel
theorem dX11_bestDeal_0 : decode cX11_bestDeal 0 = .ok (.iload_n 1, 1) := by decide +kernel
theorem dX11_bestDeal_1 : decode cX11_bestDeal 1 = .ok (.ifCond .lt 8, 3) := by decide +kernel
theorem dX11_bestDeal_4 : decode cX11_bestDeal 4 = .ok (.iload_n 1, 1) := by decide +kernel
theorem dX11_bestDeal_5 : decode cX11_bestDeal 5 = .ok (.iconst 2, 1) := by decide +kernel
theorem dX11_bestDeal_6 : decode cX11_bestDeal 6 = .ok (.if_icmp .le 6, 3) := by decide +kernel
theorem dX11_bestDeal_9 : decode cX11_bestDeal 9 = .ok (.ldc 228, 2) := by decide +kernel
theorem dX11_bestDeal_11 : decode cX11_bestDeal 11 = .ok (.ireturn, 1) := by decide +kernel
theorem dX11_bestDeal_12 : decode cX11_bestDeal 12 = .ok (.iconst (-1), 1) := by decide +kernel
theorem dX11_bestDeal_13 : decode cX11_bestDeal 13 = .ok (.istore_n 2, 1) := by decide +kernel
theorem dX11_bestDeal_14 : decode cX11_bestDeal 14 = .ok (.iconst (-1), 1) := by decide +kernel
theorem dX11_bestDeal_15 : decode cX11_bestDeal 15 = .ok (.istore_n 3, 1) := by decide +kernel
theorem dX11_bestDeal_16 : decode cX11_bestDeal 16 = .ok (.iconst 0, 1) := by decide +kernel
theorem dX11_bestDeal_17 : decode cX11_bestDeal 17 = .ok (.istore 4, 2) := by decide +kernel
theorem dX11_bestDeal_19 : decode cX11_bestDeal 19 = .ok (.iconst 0, 1) := by decide +kernel
theorem dX11_bestDeal_20 : decode cX11_bestDeal 20 = .ok (.istore 5, 2) := by decide +kernel
theorem dX11_bestDeal_22 : decode cX11_bestDeal 22 = .ok (.iload 5, 2) := by decide +kernel
theorem dX11_bestDeal_24 : decode cX11_bestDeal 24 = .ok (.bipush 8, 2) := by decide +kernel
theorem dX11_bestDeal_26 : decode cX11_bestDeal 26 = .ok (.if_icmp .ge 80, 3) := by decide +kernel
theorem dX11_bestDeal_29 : decode cX11_bestDeal 29 = .ok (.iload 5, 2) := by decide +kernel
theorem dX11_bestDeal_31 : decode cX11_bestDeal 31 = .ok (.iconst 1, 1) := by decide +kernel
theorem dX11_bestDeal_32 : decode cX11_bestDeal 32 = .ok (.iadd, 1) := by decide +kernel
theorem dX11_bestDeal_33 : decode cX11_bestDeal 33 = .ok (.istore 6, 2) := by decide +kernel
theorem dX11_bestDeal_35 : decode cX11_bestDeal 35 = .ok (.iload 6, 2) := by decide +kernel
theorem dX11_bestDeal_37 : decode cX11_bestDeal 37 = .ok (.bipush 8, 2) := by decide +kernel
theorem dX11_bestDeal_39 : decode cX11_bestDeal 39 = .ok (.if_icmp .ge 61, 3) := by decide +kernel
theorem dX11_bestDeal_42 : decode cX11_bestDeal 42 = .ok (.aload_n 0, 1) := by decide +kernel
theorem dX11_bestDeal_43 : decode cX11_bestDeal 43 = .ok (.getfield 57, 3) := by decide +kernel
theorem dX11_bestDeal_46 : decode cX11_bestDeal 46 = .ok (.iload 5, 2) := by decide +kernel
theorem dX11_bestDeal_48 : decode cX11_bestDeal 48 = .ok (.iload 6, 2) := by decide +kernel
theorem dX11_bestDeal_50 : decode cX11_bestDeal 50 = .ok (.invokevirtual 285, 3) := by decide +kernel
theorem dX11_bestDeal_53 : decode cX11_bestDeal 53 = .ok (.ifCond .ne 6, 3) := by decide +kernel
theorem dX11_bestDeal_56 : decode cX11_bestDeal 56 = .ok (.goto 38, 3) := by decide +kernel
theorem dX11_bestDeal_59 : decode cX11_bestDeal 59 = .ok (.aload_n 0, 1) := by decide +kernel
theorem dX11_bestDeal_60 : decode cX11_bestDeal 60 = .ok (.getfield 57, 3) := by decide +kernel
theorem dX11_bestDeal_63 : decode cX11_bestDeal 63 = .ok (.iload 5, 2) := by decide +kernel
theorem dX11_bestDeal_65 : decode cX11_bestDeal 65 = .ok (.iload 6, 2) := by decide +kernel
theorem dX11_bestDeal_67 : decode cX11_bestDeal 67 = .ok (.invokevirtual 288, 3) := by decide +kernel
theorem dX11_bestDeal_70 : decode cX11_bestDeal 70 = .ok (.istore 7, 2) := by decide +kernel
theorem dX11_bestDeal_72 : decode cX11_bestDeal 72 = .ok (.iload_n 2, 1) := by decide +kernel
theorem dX11_bestDeal_73 : decode cX11_bestDeal 73 = .ok (.iconst (-1), 1) := by decide +kernel
theorem dX11_bestDeal_74 : decode cX11_bestDeal 74 = .ok (.if_icmp .eq 10, 3) := by decide +kernel
theorem dX11_bestDeal_77 : decode cX11_bestDeal 77 = .ok (.iload 7, 2) := by decide +kernel
theorem dX11_bestDeal_79 : decode cX11_bestDeal 79 = .ok (.iload 4, 2) := by decide +kernel
theorem dX11_bestDeal_81 : decode cX11_bestDeal 81 = .ok (.if_icmp .le 13, 3) := by decide +kernel
theorem dX11_bestDeal_84 : decode cX11_bestDeal 84 = .ok (.iload 5, 2) := by decide +kernel
theorem dX11_bestDeal_86 : decode cX11_bestDeal 86 = .ok (.istore_n 2, 1) := by decide +kernel
theorem dX11_bestDeal_87 : decode cX11_bestDeal 87 = .ok (.iload 6, 2) := by decide +kernel
theorem dX11_bestDeal_89 : decode cX11_bestDeal 89 = .ok (.istore_n 3, 1) := by decide +kernel
theorem dX11_bestDeal_90 : decode cX11_bestDeal 90 = .ok (.iload 7, 2) := by decide +kernel
theorem dX11_bestDeal_92 : decode cX11_bestDeal 92 = .ok (.istore 4, 2) := by decide +kernel
theorem dX11_bestDeal_94 : decode cX11_bestDeal 94 = .ok (.iinc 6 1, 3) := by decide +kernel
theorem dX11_bestDeal_97 : decode cX11_bestDeal 97 = .ok (.goto (-62), 3) := by decide +kernel
theorem dX11_bestDeal_100 : decode cX11_bestDeal 100 = .ok (.iinc 5 1, 3) := by decide +kernel
theorem dX11_bestDeal_103 : decode cX11_bestDeal 103 = .ok (.goto (-81), 3) := by decide +kernel
theorem dX11_bestDeal_106 : decode cX11_bestDeal 106 = .ok (.iload_n 2, 1) := by decide +kernel
theorem dX11_bestDeal_107 : decode cX11_bestDeal 107 = .ok (.iconst (-1), 1) := by decide +kernel
theorem dX11_bestDeal_108 : decode cX11_bestDeal 108 = .ok (.if_icmp .ne 6, 3) := by decide +kernel
theorem dX11_bestDeal_111 : decode cX11_bestDeal 111 = .ok (.ldc 228, 2) := by decide +kernel
theorem dX11_bestDeal_113 : decode cX11_bestDeal 113 = .ok (.ireturn, 1) := by decide +kernel
theorem dX11_bestDeal_114 : decode cX11_bestDeal 114 = .ok (.iload_n 1, 1) := by decide +kernel
theorem dX11_bestDeal_115 : decode cX11_bestDeal 115 = .ok (.iconst 2, 1) := by decide +kernel
theorem dX11_bestDeal_116 : decode cX11_bestDeal 116 = .ok (.if_icmp .ne 6, 3) := by decide +kernel
theorem dX11_bestDeal_119 : decode cX11_bestDeal 119 = .ok (.iload 4, 2) := by decide +kernel
theorem dX11_bestDeal_121 : decode cX11_bestDeal 121 = .ok (.ireturn, 1) := by decide +kernel
theorem dX11_bestDeal_122 : decode cX11_bestDeal 122 = .ok (.iload_n 1, 1) := by decide +kernel
theorem dX11_bestDeal_123 : decode cX11_bestDeal 123 = .ok (.ifCond .ne 7, 3) := by decide +kernel
theorem dX11_bestDeal_126 : decode cX11_bestDeal 126 = .ok (.iload_n 2, 1) := by decide +kernel
theorem dX11_bestDeal_127 : decode cX11_bestDeal 127 = .ok (.goto 4, 3) := by decide +kernel
theorem dX11_bestDeal_130 : decode cX11_bestDeal 130 = .ok (.iload_n 3, 1) := by decide +kernel
theorem dX11_bestDeal_131 : decode cX11_bestDeal 131 = .ok (.ireturn, 1) := by decide +kernel
theorem dX11_line_0 : decode cX11_line 0 = .ok (.iload_n 1, 1) := by decide +kernel
theorem dX11_line_1 : decode cX11_line 1 = .ok (.invokestatic 91, 3) := by decide +kernel
theorem dX11_line_4 : decode cX11_line 4 = .ok (.ifCond .ne 5, 3) := by decide +kernel
theorem dX11_line_7 : decode cX11_line 7 = .ok (.iconst (-1), 1) := by decide +kernel
theorem dX11_line_8 : decode cX11_line 8 = .ok (.ireturn, 1) := by decide +kernel
theorem dX11_line_9 : decode cX11_line 9 = .ok (.iload_n 2, 1) := by decide +kernel
theorem dX11_line_10 : decode cX11_line 10 = .ok (.tableswitch 108 0 6 #[42, 51, 60, 69, 78, 87, 99], 42) := by decide +kernel
theorem dX11_line_52 : decode cX11_line 52 = .ok (.aload_n 0, 1) := by decide +kernel
theorem dX11_line_53 : decode cX11_line 53 = .ok (.getfield 57, 3) := by decide +kernel
theorem dX11_line_56 : decode cX11_line 56 = .ok (.iload_n 1, 1) := by decide +kernel
theorem dX11_line_57 : decode cX11_line 57 = .ok (.invokevirtual 294, 3) := by decide +kernel
theorem dX11_line_60 : decode cX11_line 60 = .ok (.ireturn, 1) := by decide +kernel
theorem dX11_line_61 : decode cX11_line 61 = .ok (.aload_n 0, 1) := by decide +kernel
theorem dX11_line_62 : decode cX11_line 62 = .ok (.getfield 57, 3) := by decide +kernel
theorem dX11_line_65 : decode cX11_line 65 = .ok (.iload_n 1, 1) := by decide +kernel
theorem dX11_line_66 : decode cX11_line 66 = .ok (.invokevirtual 297, 3) := by decide +kernel
theorem dX11_line_69 : decode cX11_line 69 = .ok (.ireturn, 1) := by decide +kernel
theorem dX11_line_70 : decode cX11_line 70 = .ok (.aload_n 0, 1) := by decide +kernel
theorem dX11_line_71 : decode cX11_line 71 = .ok (.getfield 57, 3) := by decide +kernel
theorem dX11_line_74 : decode cX11_line 74 = .ok (.iload_n 1, 1) := by decide +kernel
theorem dX11_line_75 : decode cX11_line 75 = .ok (.invokevirtual 300, 3) := by decide +kernel
theorem dX11_line_78 : decode cX11_line 78 = .ok (.ireturn, 1) := by decide +kernel
theorem dX11_line_79 : decode cX11_line 79 = .ok (.aload_n 0, 1) := by decide +kernel
theorem dX11_line_80 : decode cX11_line 80 = .ok (.getfield 57, 3) := by decide +kernel
theorem dX11_line_83 : decode cX11_line 83 = .ok (.iload_n 1, 1) := by decide +kernel
theorem dX11_line_84 : decode cX11_line 84 = .ok (.invokevirtual 303, 3) := by decide +kernel
theorem dX11_line_87 : decode cX11_line 87 = .ok (.ireturn, 1) := by decide +kernel
theorem dX11_line_88 : decode cX11_line 88 = .ok (.aload_n 0, 1) := by decide +kernel
theorem dX11_line_89 : decode cX11_line 89 = .ok (.getfield 57, 3) := by decide +kernel
theorem dX11_line_92 : decode cX11_line 92 = .ok (.iload_n 1, 1) := by decide +kernel
theorem dX11_line_93 : decode cX11_line 93 = .ok (.invokevirtual 306, 3) := by decide +kernel
theorem dX11_line_96 : decode cX11_line 96 = .ok (.ireturn, 1) := by decide +kernel
theorem dX11_line_97 : decode cX11_line 97 = .ok (.aload_n 0, 1) := by decide +kernel
theorem dX11_line_98 : decode cX11_line 98 = .ok (.getfield 57, 3) := by decide +kernel
theorem dX11_line_101 : decode cX11_line 101 = .ok (.getfield 194, 3) := by decide +kernel
theorem dX11_line_104 : decode cX11_line 104 = .ok (.iload_n 1, 1) := by decide +kernel
theorem dX11_line_105 : decode cX11_line 105 = .ok (.invokevirtual 309, 3) := by decide +kernel
theorem dX11_line_108 : decode cX11_line 108 = .ok (.ireturn, 1) := by decide +kernel
theorem dX11_line_109 : decode cX11_line 109 = .ok (.aload_n 0, 1) := by decide +kernel
theorem dX11_line_110 : decode cX11_line 110 = .ok (.getfield 57, 3) := by decide +kernel
theorem dX11_line_113 : decode cX11_line 113 = .ok (.iload_n 1, 1) := by decide +kernel
theorem dX11_line_114 : decode cX11_line 114 = .ok (.invokevirtual 312, 3) := by decide +kernel
theorem dX11_line_117 : decode cX11_line 117 = .ok (.ireturn, 1) := by decide +kernel
theorem dX11_line_118 : decode cX11_line 118 = .ok (.iconst (-1), 1) := by decide +kernel
theorem dX11_line_119 : decode cX11_line 119 = .ok (.ireturn, 1) := by decide +kernel
theorem dX11_bestOrder_0 : decode cX11_bestOrder 0 = .ok (.iload_n 1, 1) := by decide +kernel
theorem dX11_bestOrder_1 : decode cX11_bestOrder 1 = .ok (.invokestatic 91, 3) := by decide +kernel
theorem dX11_bestOrder_4 : decode cX11_bestOrder 4 = .ok (.ifCond .eq 19, 3) := by decide +kernel
theorem dX11_bestOrder_7 : decode cX11_bestOrder 7 = .ok (.iload_n 2, 1) := by decide +kernel
theorem dX11_bestOrder_8 : decode cX11_bestOrder 8 = .ok (.iconst (-1), 1) := by decide +kernel
theorem dX11_bestOrder_9 : decode cX11_bestOrder 9 = .ok (.if_icmp .eq 16, 3) := by decide +kernel
theorem dX11_bestOrder_12 : decode cX11_bestOrder 12 = .ok (.aload_n 0, 1) := by decide +kernel
theorem dX11_bestOrder_13 : decode cX11_bestOrder 13 = .ok (.getfield 57, 3) := by decide +kernel
theorem dX11_bestOrder_16 : decode cX11_bestOrder 16 = .ok (.iload_n 2, 1) := by decide +kernel
theorem dX11_bestOrder_17 : decode cX11_bestOrder 17 = .ok (.invokevirtual 145, 3) := by decide +kernel
theorem dX11_bestOrder_20 : decode cX11_bestOrder 20 = .ok (.ifCond .ne 5, 3) := by decide +kernel
theorem dX11_bestOrder_23 : decode cX11_bestOrder 23 = .ok (.iconst (-1), 1) := by decide +kernel
theorem dX11_bestOrder_24 : decode cX11_bestOrder 24 = .ok (.ireturn, 1) := by decide +kernel
theorem dX11_bestOrder_25 : decode cX11_bestOrder 25 = .ok (.iload_n 2, 1) := by decide +kernel
theorem dX11_bestOrder_26 : decode cX11_bestOrder 26 = .ok (.iconst (-1), 1) := by decide +kernel
theorem dX11_bestOrder_27 : decode cX11_bestOrder 27 = .ok (.if_icmp .ne 32, 3) := by decide +kernel
theorem dX11_bestOrder_30 : decode cX11_bestOrder 30 = .ok (.aload_n 0, 1) := by decide +kernel
theorem dX11_bestOrder_31 : decode cX11_bestOrder 31 = .ok (.getfield 50, 3) := by decide +kernel
theorem dX11_bestOrder_34 : decode cX11_bestOrder 34 = .ok (.aload_n 0, 1) := by decide +kernel
theorem dX11_bestOrder_35 : decode cX11_bestOrder 35 = .ok (.getfield 57, 3) := by decide +kernel
theorem dX11_bestOrder_38 : decode cX11_bestOrder 38 = .ok (.iload_n 1, 1) := by decide +kernel
theorem dX11_bestOrder_39 : decode cX11_bestOrder 39 = .ok (.invokevirtual 315, 3) := by decide +kernel
theorem dX11_bestOrder_42 : decode cX11_bestOrder 42 = .ok (.aload_n 0, 1) := by decide +kernel
theorem dX11_bestOrder_43 : decode cX11_bestOrder 43 = .ok (.getfield 57, 3) := by decide +kernel
theorem dX11_bestOrder_46 : decode cX11_bestOrder 46 = .ok (.iload_n 1, 1) := by decide +kernel
theorem dX11_bestOrder_47 : decode cX11_bestOrder 47 = .ok (.invokevirtual 303, 3) := by decide +kernel
theorem dX11_bestOrder_50 : decode cX11_bestOrder 50 = .ok (.aload_n 0, 1) := by decide +kernel
theorem dX11_bestOrder_51 : decode cX11_bestOrder 51 = .ok (.getfield 50, 3) := by decide +kernel
theorem dX11_bestOrder_54 : decode cX11_bestOrder 54 = .ok (.invokevirtual 318, 3) := by decide +kernel
theorem dX11_bestOrder_57 : decode cX11_bestOrder 57 = .ok (.isub, 1) := by decide +kernel
theorem dX11_bestOrder_58 : decode cX11_bestOrder 58 = .ok (.ireturn, 1) := by decide +kernel
theorem dX11_bestOrder_59 : decode cX11_bestOrder 59 = .ok (.aload_n 0, 1) := by decide +kernel
theorem dX11_bestOrder_60 : decode cX11_bestOrder 60 = .ok (.getfield 57, 3) := by decide +kernel
theorem dX11_bestOrder_63 : decode cX11_bestOrder 63 = .ok (.iload_n 2, 1) := by decide +kernel
theorem dX11_bestOrder_64 : decode cX11_bestOrder 64 = .ok (.invokevirtual 164, 3) := by decide +kernel
theorem dX11_bestOrder_67 : decode cX11_bestOrder 67 = .ok (.ifCond .eq 15, 3) := by decide +kernel
theorem dX11_bestOrder_70 : decode cX11_bestOrder 70 = .ok (.aload_n 0, 1) := by decide +kernel
theorem dX11_bestOrder_71 : decode cX11_bestOrder 71 = .ok (.getfield 57, 3) := by decide +kernel
theorem dX11_bestOrder_74 : decode cX11_bestOrder 74 = .ok (.iload_n 2, 1) := by decide +kernel
theorem dX11_bestOrder_75 : decode cX11_bestOrder 75 = .ok (.iload_n 1, 1) := by decide +kernel
theorem dX11_bestOrder_76 : decode cX11_bestOrder 76 = .ok (.invokevirtual 238, 3) := by decide +kernel
theorem dX11_bestOrder_79 : decode cX11_bestOrder 79 = .ok (.ifCond .ne 6, 3) := by decide +kernel
theorem dX11_bestOrder_82 : decode cX11_bestOrder 82 = .ok (.bipush (-2), 2) := by decide +kernel
theorem dX11_bestOrder_84 : decode cX11_bestOrder 84 = .ok (.ireturn, 1) := by decide +kernel
theorem dX11_bestOrder_85 : decode cX11_bestOrder 85 = .ok (.aload_n 0, 1) := by decide +kernel
theorem dX11_bestOrder_86 : decode cX11_bestOrder 86 = .ok (.getfield 50, 3) := by decide +kernel
theorem dX11_bestOrder_89 : decode cX11_bestOrder 89 = .ok (.aload_n 0, 1) := by decide +kernel
theorem dX11_bestOrder_90 : decode cX11_bestOrder 90 = .ok (.getfield 57, 3) := by decide +kernel
theorem dX11_bestOrder_93 : decode cX11_bestOrder 93 = .ok (.iload_n 1, 1) := by decide +kernel
theorem dX11_bestOrder_94 : decode cX11_bestOrder 94 = .ok (.invokevirtual 315, 3) := by decide +kernel
theorem dX11_bestOrder_97 : decode cX11_bestOrder 97 = .ok (.aload_n 0, 1) := by decide +kernel
theorem dX11_bestOrder_98 : decode cX11_bestOrder 98 = .ok (.getfield 50, 3) := by decide +kernel
theorem dX11_bestOrder_101 : decode cX11_bestOrder 101 = .ok (.iload_n 2, 1) := by decide +kernel
theorem dX11_bestOrder_102 : decode cX11_bestOrder 102 = .ok (.invokevirtual 321, 3) := by decide +kernel
theorem dX11_bestOrder_105 : decode cX11_bestOrder 105 = .ok (.istore_n 3, 1) := by decide +kernel
theorem dX11_bestOrder_106 : decode cX11_bestOrder 106 = .ok (.iload_n 3, 1) := by decide +kernel
theorem dX11_bestOrder_107 : decode cX11_bestOrder 107 = .ok (.iconst (-1), 1) := by decide +kernel
theorem dX11_bestOrder_108 : decode cX11_bestOrder 108 = .ok (.if_icmp .ne 15, 3) := by decide +kernel
theorem dX11_bestOrder_111 : decode cX11_bestOrder 111 = .ok (.aload_n 0, 1) := by decide +kernel
theorem dX11_bestOrder_112 : decode cX11_bestOrder 112 = .ok (.getfield 57, 3) := by decide +kernel
theorem dX11_bestOrder_115 : decode cX11_bestOrder 115 = .ok (.getfield 167, 3) := by decide +kernel
theorem dX11_bestOrder_118 : decode cX11_bestOrder 118 = .ok (.iload_n 2, 1) := by decide +kernel
theorem dX11_bestOrder_119 : decode cX11_bestOrder 119 = .ok (.iaload, 1) := by decide +kernel
theorem dX11_bestOrder_120 : decode cX11_bestOrder 120 = .ok (.goto 4, 3) := by decide +kernel
theorem dX11_bestOrder_123 : decode cX11_bestOrder 123 = .ok (.iload_n 3, 1) := by decide +kernel
theorem dX11_bestOrder_124 : decode cX11_bestOrder 124 = .ok (.ireturn, 1) := by decide +kernel
theorem dX11_order_0 : decode cX11_order 0 = .ok (.iload_n 1, 1) := by decide +kernel
theorem dX11_order_1 : decode cX11_order 1 = .ok (.invokestatic 91, 3) := by decide +kernel
theorem dX11_order_4 : decode cX11_order 4 = .ok (.ifCond .ne 5, 3) := by decide +kernel
theorem dX11_order_7 : decode cX11_order 7 = .ok (.iconst (-1), 1) := by decide +kernel
theorem dX11_order_8 : decode cX11_order 8 = .ok (.ireturn, 1) := by decide +kernel
theorem dX11_order_9 : decode cX11_order 9 = .ok (.aload_n 0, 1) := by decide +kernel
theorem dX11_order_10 : decode cX11_order 10 = .ok (.getfield 50, 3) := by decide +kernel
theorem dX11_order_13 : decode cX11_order 13 = .ok (.aload_n 0, 1) := by decide +kernel
theorem dX11_order_14 : decode cX11_order 14 = .ok (.getfield 57, 3) := by decide +kernel
theorem dX11_order_17 : decode cX11_order 17 = .ok (.iload_n 1, 1) := by decide +kernel
theorem dX11_order_18 : decode cX11_order 18 = .ok (.invokevirtual 315, 3) := by decide +kernel
theorem dX11_order_21 : decode cX11_order 21 = .ok (.iconst 0, 1) := by decide +kernel
theorem dX11_order_22 : decode cX11_order 22 = .ok (.istore_n 2, 1) := by decide +kernel
theorem dX11_order_23 : decode cX11_order 23 = .ok (.iload_n 2, 1) := by decide +kernel
theorem dX11_order_24 : decode cX11_order 24 = .ok (.aload_n 0, 1) := by decide +kernel
theorem dX11_order_25 : decode cX11_order 25 = .ok (.getfield 50, 3) := by decide +kernel
theorem dX11_order_28 : decode cX11_order 28 = .ok (.getfield 324, 3) := by decide +kernel
theorem dX11_order_31 : decode cX11_order 31 = .ok (.if_icmp .ge 40, 3) := by decide +kernel
theorem dX11_order_34 : decode cX11_order 34 = .ok (.iload_n 2, 1) := by decide +kernel
theorem dX11_order_35 : decode cX11_order 35 = .ok (.bipush 6, 2) := by decide +kernel
theorem dX11_order_37 : decode cX11_order 37 = .ok (.if_icmp .ge 34, 3) := by decide +kernel
theorem dX11_order_40 : decode cX11_order 40 = .ok (.aload_n 0, 1) := by decide +kernel
theorem dX11_order_41 : decode cX11_order 41 = .ok (.getfield 57, 3) := by decide +kernel
theorem dX11_order_44 : decode cX11_order 44 = .ok (.aload_n 0, 1) := by decide +kernel
theorem dX11_order_45 : decode cX11_order 45 = .ok (.getfield 50, 3) := by decide +kernel
theorem dX11_order_48 : decode cX11_order 48 = .ok (.getfield 325, 3) := by decide +kernel
theorem dX11_order_51 : decode cX11_order 51 = .ok (.iload_n 2, 1) := by decide +kernel
theorem dX11_order_52 : decode cX11_order 52 = .ok (.iaload, 1) := by decide +kernel
theorem dX11_order_53 : decode cX11_order 53 = .ok (.aload_n 0, 1) := by decide +kernel
theorem dX11_order_54 : decode cX11_order 54 = .ok (.getfield 50, 3) := by decide +kernel
theorem dX11_order_57 : decode cX11_order 57 = .ok (.getfield 328, 3) := by decide +kernel
theorem dX11_order_60 : decode cX11_order 60 = .ok (.iload_n 2, 1) := by decide +kernel
theorem dX11_order_61 : decode cX11_order 61 = .ok (.iaload, 1) := by decide +kernel
theorem dX11_order_62 : decode cX11_order 62 = .ok (.invokevirtual 331, 3) := by decide +kernel
theorem dX11_order_65 : decode cX11_order 65 = .ok (.iinc 2 1, 3) := by decide +kernel
theorem dX11_order_68 : decode cX11_order 68 = .ok (.goto (-45), 3) := by decide +kernel
theorem dX11_order_71 : decode cX11_order 71 = .ok (.aload_n 0, 1) := by decide +kernel
theorem dX11_order_72 : decode cX11_order 72 = .ok (.getfield 50, 3) := by decide +kernel
theorem dX11_order_75 : decode cX11_order 75 = .ok (.invokevirtual 318, 3) := by decide +kernel
theorem dX11_order_78 : decode cX11_order 78 = .ok (.ireturn, 1) := by decide +kernel
theorem dX11_bestCancel_0 : decode cX11_bestCancel 0 = .ok (.iload_n 1, 1) := by decide +kernel
theorem dX11_bestCancel_1 : decode cX11_bestCancel 1 = .ok (.invokestatic 91, 3) := by decide +kernel
theorem dX11_bestCancel_4 : decode cX11_bestCancel 4 = .ok (.ifCond .eq 12, 3) := by decide +kernel
theorem dX11_bestCancel_7 : decode cX11_bestCancel 7 = .ok (.iload_n 2, 1) := by decide +kernel
theorem dX11_bestCancel_8 : decode cX11_bestCancel 8 = .ok (.ifCond .lt 8, 3) := by decide +kernel
theorem dX11_bestCancel_11 : decode cX11_bestCancel 11 = .ok (.iload_n 2, 1) := by decide +kernel
theorem dX11_bestCancel_12 : decode cX11_bestCancel 12 = .ok (.iconst 1, 1) := by decide +kernel
theorem dX11_bestCancel_13 : decode cX11_bestCancel 13 = .ok (.if_icmp .le 5, 3) := by decide +kernel
theorem dX11_bestCancel_16 : decode cX11_bestCancel 16 = .ok (.iconst (-1), 1) := by decide +kernel
theorem dX11_bestCancel_17 : decode cX11_bestCancel 17 = .ok (.ireturn, 1) := by decide +kernel
theorem dX11_bestCancel_18 : decode cX11_bestCancel 18 = .ok (.iconst (-1), 1) := by decide +kernel
theorem dX11_bestCancel_19 : decode cX11_bestCancel 19 = .ok (.istore_n 3, 1) := by decide +kernel
theorem dX11_bestCancel_20 : decode cX11_bestCancel 20 = .ok (.iconst 0, 1) := by decide +kernel
theorem dX11_bestCancel_21 : decode cX11_bestCancel 21 = .ok (.istore 4, 2) := by decide +kernel
theorem dX11_bestCancel_23 : decode cX11_bestCancel 23 = .ok (.iconst 0, 1) := by decide +kernel
theorem dX11_bestCancel_24 : decode cX11_bestCancel 24 = .ok (.istore 5, 2) := by decide +kernel
theorem dX11_bestCancel_26 : decode cX11_bestCancel 26 = .ok (.iload 5, 2) := by decide +kernel
theorem dX11_bestCancel_28 : decode cX11_bestCancel 28 = .ok (.bipush 20, 2) := by decide +kernel
theorem dX11_bestCancel_30 : decode cX11_bestCancel 30 = .ok (.if_icmp .ge 72, 3) := by decide +kernel
theorem dX11_bestCancel_33 : decode cX11_bestCancel 33 = .ok (.aload_n 0, 1) := by decide +kernel
theorem dX11_bestCancel_34 : decode cX11_bestCancel 34 = .ok (.getfield 57, 3) := by decide +kernel
theorem dX11_bestCancel_37 : decode cX11_bestCancel 37 = .ok (.iload 5, 2) := by decide +kernel
theorem dX11_bestCancel_39 : decode cX11_bestCancel 39 = .ok (.iload_n 1, 1) := by decide +kernel
theorem dX11_bestCancel_40 : decode cX11_bestCancel 40 = .ok (.invokevirtual 238, 3) := by decide +kernel
theorem dX11_bestCancel_43 : decode cX11_bestCancel 43 = .ok (.ifCond .eq 53, 3) := by decide +kernel
theorem dX11_bestCancel_46 : decode cX11_bestCancel 46 = .ok (.aload_n 0, 1) := by decide +kernel
theorem dX11_bestCancel_47 : decode cX11_bestCancel 47 = .ok (.getfield 57, 3) := by decide +kernel
theorem dX11_bestCancel_50 : decode cX11_bestCancel 50 = .ok (.iload 5, 2) := by decide +kernel
theorem dX11_bestCancel_52 : decode cX11_bestCancel 52 = .ok (.invokevirtual 232, 3) := by decide +kernel
theorem dX11_bestCancel_55 : decode cX11_bestCancel 55 = .ok (.ifCond .ne 6, 3) := by decide +kernel
theorem dX11_bestCancel_58 : decode cX11_bestCancel 58 = .ok (.goto 38, 3) := by decide +kernel
theorem dX11_bestCancel_61 : decode cX11_bestCancel 61 = .ok (.aload_n 0, 1) := by decide +kernel
theorem dX11_bestCancel_62 : decode cX11_bestCancel 62 = .ok (.iload 5, 2) := by decide +kernel
theorem dX11_bestCancel_64 : decode cX11_bestCancel 64 = .ok (.invokevirtual 334, 3) := by decide +kernel
theorem dX11_bestCancel_67 : decode cX11_bestCancel 67 = .ok (.aload_n 0, 1) := by decide +kernel
theorem dX11_bestCancel_68 : decode cX11_bestCancel 68 = .ok (.getfield 61, 3) := by decide +kernel
theorem dX11_bestCancel_71 : decode cX11_bestCancel 71 = .ok (.iload_n 1, 1) := by decide +kernel
theorem dX11_bestCancel_72 : decode cX11_bestCancel 72 = .ok (.invokevirtual 303, 3) := by decide +kernel
theorem dX11_bestCancel_75 : decode cX11_bestCancel 75 = .ok (.istore 6, 2) := by decide +kernel
theorem dX11_bestCancel_77 : decode cX11_bestCancel 77 = .ok (.iload_n 3, 1) := by decide +kernel
theorem dX11_bestCancel_78 : decode cX11_bestCancel 78 = .ok (.iconst (-1), 1) := by decide +kernel
theorem dX11_bestCancel_79 : decode cX11_bestCancel 79 = .ok (.if_icmp .eq 10, 3) := by decide +kernel
theorem dX11_bestCancel_82 : decode cX11_bestCancel 82 = .ok (.iload 6, 2) := by decide +kernel
theorem dX11_bestCancel_84 : decode cX11_bestCancel 84 = .ok (.iload 4, 2) := by decide +kernel
theorem dX11_bestCancel_86 : decode cX11_bestCancel 86 = .ok (.if_icmp .ge 10, 3) := by decide +kernel
theorem dX11_bestCancel_89 : decode cX11_bestCancel 89 = .ok (.iload 5, 2) := by decide +kernel
theorem dX11_bestCancel_91 : decode cX11_bestCancel 91 = .ok (.istore_n 3, 1) := by decide +kernel
theorem dX11_bestCancel_92 : decode cX11_bestCancel 92 = .ok (.iload 6, 2) := by decide +kernel
theorem dX11_bestCancel_94 : decode cX11_bestCancel 94 = .ok (.istore 4, 2) := by decide +kernel
theorem dX11_bestCancel_96 : decode cX11_bestCancel 96 = .ok (.iinc 5 1, 3) := by decide +kernel
theorem dX11_bestCancel_99 : decode cX11_bestCancel 99 = .ok (.goto (-73), 3) := by decide +kernel
theorem dX11_bestCancel_102 : decode cX11_bestCancel 102 = .ok (.iload_n 3, 1) := by decide +kernel
theorem dX11_bestCancel_103 : decode cX11_bestCancel 103 = .ok (.iconst (-1), 1) := by decide +kernel
theorem dX11_bestCancel_104 : decode cX11_bestCancel 104 = .ok (.if_icmp .ne 6, 3) := by decide +kernel
theorem dX11_bestCancel_107 : decode cX11_bestCancel 107 = .ok (.bipush (-2), 2) := by decide +kernel
theorem dX11_bestCancel_109 : decode cX11_bestCancel 109 = .ok (.ireturn, 1) := by decide +kernel
theorem dX11_bestCancel_110 : decode cX11_bestCancel 110 = .ok (.iload_n 2, 1) := by decide +kernel
theorem dX11_bestCancel_111 : decode cX11_bestCancel 111 = .ok (.ifCond .ne 7, 3) := by decide +kernel
theorem dX11_bestCancel_114 : decode cX11_bestCancel 114 = .ok (.iload_n 3, 1) := by decide +kernel
theorem dX11_bestCancel_115 : decode cX11_bestCancel 115 = .ok (.goto 5, 3) := by decide +kernel
theorem dX11_bestCancel_118 : decode cX11_bestCancel 118 = .ok (.iload 4, 2) := by decide +kernel
theorem dX11_bestCancel_120 : decode cX11_bestCancel 120 = .ok (.ireturn, 1) := by decide +kernel
theorem dX11_helps_0 : decode cX11_helps 0 = .ok (.iload_n 2, 1) := by decide +kernel
theorem dX11_helps_1 : decode cX11_helps 1 = .ok (.invokestatic 91, 3) := by decide +kernel
theorem dX11_helps_4 : decode cX11_helps 4 = .ok (.ifCond .eq 25, 3) := by decide +kernel
theorem dX11_helps_7 : decode cX11_helps 7 = .ok (.aload_n 0, 1) := by decide +kernel
theorem dX11_helps_8 : decode cX11_helps 8 = .ok (.getfield 57, 3) := by decide +kernel
theorem dX11_helps_11 : decode cX11_helps 11 = .ok (.iload_n 1, 1) := by decide +kernel
theorem dX11_helps_12 : decode cX11_helps 12 = .ok (.invokevirtual 145, 3) := by decide +kernel
theorem dX11_helps_15 : decode cX11_helps 15 = .ok (.ifCond .eq 14, 3) := by decide +kernel
theorem dX11_helps_18 : decode cX11_helps 18 = .ok (.aload_n 0, 1) := by decide +kernel
theorem dX11_helps_19 : decode cX11_helps 19 = .ok (.getfield 57, 3) := by decide +kernel
theorem dX11_helps_22 : decode cX11_helps 22 = .ok (.iload_n 1, 1) := by decide +kernel
theorem dX11_helps_23 : decode cX11_helps 23 = .ok (.invokevirtual 232, 3) := by decide +kernel
theorem dX11_helps_26 : decode cX11_helps 26 = .ok (.ifCond .ne 6, 3) := by decide +kernel
theorem dX11_helps_29 : decode cX11_helps 29 = .ok (.ldc 228, 2) := by decide +kernel
theorem dX11_helps_31 : decode cX11_helps 31 = .ok (.ireturn, 1) := by decide +kernel
theorem dX11_helps_32 : decode cX11_helps 32 = .ok (.aload_n 0, 1) := by decide +kernel
theorem dX11_helps_33 : decode cX11_helps 33 = .ok (.iload_n 1, 1) := by decide +kernel
theorem dX11_helps_34 : decode cX11_helps 34 = .ok (.invokevirtual 334, 3) := by decide +kernel
theorem dX11_helps_37 : decode cX11_helps 37 = .ok (.aload_n 0, 1) := by decide +kernel
theorem dX11_helps_38 : decode cX11_helps 38 = .ok (.getfield 57, 3) := by decide +kernel
theorem dX11_helps_41 : decode cX11_helps 41 = .ok (.iload_n 1, 1) := by decide +kernel
theorem dX11_helps_42 : decode cX11_helps 42 = .ok (.iload_n 2, 1) := by decide +kernel
theorem dX11_helps_43 : decode cX11_helps 43 = .ok (.invokevirtual 238, 3) := by decide +kernel
theorem dX11_helps_46 : decode cX11_helps 46 = .ok (.ifCond .eq 14, 3) := by decide +kernel
theorem dX11_helps_49 : decode cX11_helps 49 = .ok (.aload_n 0, 1) := by decide +kernel
theorem dX11_helps_50 : decode cX11_helps 50 = .ok (.getfield 57, 3) := by decide +kernel
theorem dX11_helps_53 : decode cX11_helps 53 = .ok (.iload_n 1, 1) := by decide +kernel
theorem dX11_helps_54 : decode cX11_helps 54 = .ok (.invokevirtual 337, 3) := by decide +kernel
theorem dX11_helps_57 : decode cX11_helps 57 = .ok (.goto 4, 3) := by decide +kernel
theorem dX11_helps_60 : decode cX11_helps 60 = .ok (.iconst 0, 1) := by decide +kernel
theorem dX11_helps_61 : decode cX11_helps 61 = .ok (.istore_n 3, 1) := by decide +kernel
theorem dX11_helps_62 : decode cX11_helps 62 = .ok (.aload_n 0, 1) := by decide +kernel
theorem dX11_helps_63 : decode cX11_helps 63 = .ok (.getfield 57, 3) := by decide +kernel
theorem dX11_helps_66 : decode cX11_helps 66 = .ok (.iload_n 2, 1) := by decide +kernel
theorem dX11_helps_67 : decode cX11_helps 67 = .ok (.invokevirtual 300, 3) := by decide +kernel
theorem dX11_helps_70 : decode cX11_helps 70 = .ok (.iload_n 3, 1) := by decide +kernel
theorem dX11_helps_71 : decode cX11_helps 71 = .ok (.isub, 1) := by decide +kernel
theorem dX11_helps_72 : decode cX11_helps 72 = .ok (.aload_n 0, 1) := by decide +kernel
theorem dX11_helps_73 : decode cX11_helps 73 = .ok (.getfield 61, 3) := by decide +kernel
theorem dX11_helps_76 : decode cX11_helps 76 = .ok (.iload_n 2, 1) := by decide +kernel
theorem dX11_helps_77 : decode cX11_helps 77 = .ok (.invokevirtual 300, 3) := by decide +kernel
theorem dX11_helps_80 : decode cX11_helps 80 = .ok (.isub, 1) := by decide +kernel
theorem dX11_helps_81 : decode cX11_helps 81 = .ok (.ireturn, 1) := by decide +kernel
theorem dX11_rank_0 : decode cX11_rank 0 = .ok (.iload_n 1, 1) := by decide +kernel
theorem dX11_rank_1 : decode cX11_rank 1 = .ok (.ifCond .ge 5, 3) := by decide +kernel
theorem dX11_rank_4 : decode cX11_rank 4 = .ok (.iconst (-1), 1) := by decide +kernel
theorem dX11_rank_5 : decode cX11_rank 5 = .ok (.ireturn, 1) := by decide +kernel
theorem dX11_rank_6 : decode cX11_rank 6 = .ok (.iconst 0, 1) := by decide +kernel
theorem dX11_rank_7 : decode cX11_rank 7 = .ok (.istore_n 2, 1) := by decide +kernel
theorem dX11_rank_8 : decode cX11_rank 8 = .ok (.iload_n 2, 1) := by decide +kernel
theorem dX11_rank_9 : decode cX11_rank 9 = .ok (.iconst 5, 1) := by decide +kernel
theorem dX11_rank_10 : decode cX11_rank 10 = .ok (.if_icmp .ge 34, 3) := by decide +kernel
theorem dX11_rank_13 : decode cX11_rank 13 = .ok (.aload_n 0, 1) := by decide +kernel
theorem dX11_rank_14 : decode cX11_rank 14 = .ok (.getfield 57, 3) := by decide +kernel
theorem dX11_rank_17 : decode cX11_rank 17 = .ok (.iload_n 2, 1) := by decide +kernel
theorem dX11_rank_18 : decode cX11_rank 18 = .ok (.invokevirtual 340, 3) := by decide +kernel
theorem dX11_rank_21 : decode cX11_rank 21 = .ok (.ifCond .le 17, 3) := by decide +kernel
theorem dX11_rank_24 : decode cX11_rank 24 = .ok (.aload_n 0, 1) := by decide +kernel
theorem dX11_rank_25 : decode cX11_rank 25 = .ok (.getfield 57, 3) := by decide +kernel
theorem dX11_rank_28 : decode cX11_rank 28 = .ok (.iload_n 2, 1) := by decide +kernel
theorem dX11_rank_29 : decode cX11_rank 29 = .ok (.invokevirtual 343, 3) := by decide +kernel
theorem dX11_rank_32 : decode cX11_rank 32 = .ok (.iload_n 1, 1) := by decide +kernel
theorem dX11_rank_33 : decode cX11_rank 33 = .ok (.if_icmp .ne 5, 3) := by decide +kernel
theorem dX11_rank_36 : decode cX11_rank 36 = .ok (.iload_n 2, 1) := by decide +kernel
theorem dX11_rank_37 : decode cX11_rank 37 = .ok (.ireturn, 1) := by decide +kernel
theorem dX11_rank_38 : decode cX11_rank 38 = .ok (.iinc 2 1, 3) := by decide +kernel
theorem dX11_rank_41 : decode cX11_rank 41 = .ok (.goto (-33), 3) := by decide +kernel
theorem dX11_rank_44 : decode cX11_rank 44 = .ok (.bipush (-2), 2) := by decide +kernel
theorem dX11_rank_46 : decode cX11_rank 46 = .ok (.ireturn, 1) := by decide +kernel
theorem dX11_unfair_0 : decode cX11_unfair 0 = .ok (.aload_n 0, 1) := by decide +kernel
theorem dX11_unfair_1 : decode cX11_unfair 1 = .ok (.getfield 57, 3) := by decide +kernel
theorem dX11_unfair_4 : decode cX11_unfair 4 = .ok (.invokevirtual 346, 3) := by decide +kernel
theorem dX11_unfair_7 : decode cX11_unfair 7 = .ok (.ireturn, 1) := by decide +kernel
theorem dX11_link_0 : decode cX11_link 0 = .ok (.aload_n 0, 1) := by decide +kernel
theorem dX11_link_1 : decode cX11_link 1 = .ok (.getfield 57, 3) := by decide +kernel
theorem dX11_link_4 : decode cX11_link 4 = .ok (.iload_n 1, 1) := by decide +kernel
theorem dX11_link_5 : decode cX11_link 5 = .ok (.invokevirtual 145, 3) := by decide +kernel
theorem dX11_link_8 : decode cX11_link 8 = .ok (.ifCond .eq 19, 3) := by decide +kernel
theorem dX11_link_11 : decode cX11_link 11 = .ok (.aload_n 0, 1) := by decide +kernel
theorem dX11_link_12 : decode cX11_link 12 = .ok (.getfield 57, 3) := by decide +kernel
theorem dX11_link_15 : decode cX11_link 15 = .ok (.iload_n 2, 1) := by decide +kernel
theorem dX11_link_16 : decode cX11_link 16 = .ok (.invokevirtual 145, 3) := by decide +kernel
theorem dX11_link_19 : decode cX11_link 19 = .ok (.ifCond .eq 8, 3) := by decide +kernel
theorem dX11_link_22 : decode cX11_link 22 = .ok (.iload_n 1, 1) := by decide +kernel
theorem dX11_link_23 : decode cX11_link 23 = .ok (.iload_n 2, 1) := by decide +kernel
theorem dX11_link_24 : decode cX11_link 24 = .ok (.if_icmp .ne 5, 3) := by decide +kernel
theorem dX11_link_27 : decode cX11_link 27 = .ok (.iconst (-1), 1) := by decide +kernel
theorem dX11_link_28 : decode cX11_link 28 = .ok (.ireturn, 1) := by decide +kernel
theorem dX11_link_29 : decode cX11_link 29 = .ok (.iload_n 3, 1) := by decide +kernel
theorem dX11_link_30 : decode cX11_link 30 = .ok (.ifCond .lt 10, 3) := by decide +kernel
theorem dX11_link_33 : decode cX11_link 33 = .ok (.iload_n 3, 1) := by decide +kernel
theorem dX11_link_34 : decode cX11_link 34 = .ok (.sipush 300, 3) := by decide +kernel
theorem dX11_link_37 : decode cX11_link 37 = .ok (.if_icmp .le 5, 3) := by decide +kernel
theorem dX11_link_40 : decode cX11_link 40 = .ok (.iconst (-1), 1) := by decide +kernel
theorem dX11_link_41 : decode cX11_link 41 = .ok (.ireturn, 1) := by decide +kernel
theorem dX11_link_42 : decode cX11_link 42 = .ok (.aload_n 0, 1) := by decide +kernel
theorem dX11_link_43 : decode cX11_link 43 = .ok (.getfield 57, 3) := by decide +kernel
theorem dX11_link_46 : decode cX11_link 46 = .ok (.getfield 349, 3) := by decide +kernel
theorem dX11_link_49 : decode cX11_link 49 = .ok (.iload_n 1, 1) := by decide +kernel
theorem dX11_link_50 : decode cX11_link 50 = .ok (.iload_n 2, 1) := by decide +kernel
theorem dX11_link_51 : decode cX11_link 51 = .ok (.iload_n 3, 1) := by decide +kernel
theorem dX11_link_52 : decode cX11_link 52 = .ok (.invokevirtual 353, 3) := by decide +kernel
theorem dX11_link_55 : decode cX11_link 55 = .ok (.ireturn, 1) := by decide +kernel
theorem dX11_linked_0 : decode cX11_linked 0 = .ok (.aload_n 0, 1) := by decide +kernel
theorem dX11_linked_1 : decode cX11_linked 1 = .ok (.getfield 57, 3) := by decide +kernel
theorem dX11_linked_4 : decode cX11_linked 4 = .ok (.getfield 349, 3) := by decide +kernel
theorem dX11_linked_7 : decode cX11_linked 7 = .ok (.iload_n 1, 1) := by decide +kernel
theorem dX11_linked_8 : decode cX11_linked 8 = .ok (.invokevirtual 358, 3) := by decide +kernel
theorem dX11_linked_11 : decode cX11_linked 11 = .ok (.ifCond .ne 5, 3) := by decide +kernel
theorem dX11_linked_14 : decode cX11_linked 14 = .ok (.iconst (-1), 1) := by decide +kernel
theorem dX11_linked_15 : decode cX11_linked 15 = .ok (.ireturn, 1) := by decide +kernel
theorem dX11_linked_16 : decode cX11_linked 16 = .ok (.iload_n 2, 1) := by decide +kernel
theorem dX11_linked_17 : decode cX11_linked 17 = .ok (.tableswitch 100 0 4 #[35, 48, 61, 74, 91], 35) := by decide +kernel
theorem dX11_linked_52 : decode cX11_linked 52 = .ok (.aload_n 0, 1) := by decide +kernel
theorem dX11_linked_53 : decode cX11_linked 53 = .ok (.getfield 57, 3) := by decide +kernel
theorem dX11_linked_56 : decode cX11_linked 56 = .ok (.getfield 349, 3) := by decide +kernel
theorem dX11_linked_59 : decode cX11_linked 59 = .ok (.getfield 359, 3) := by decide +kernel
theorem dX11_linked_62 : decode cX11_linked 62 = .ok (.iload_n 1, 1) := by decide +kernel
theorem dX11_linked_63 : decode cX11_linked 63 = .ok (.iaload, 1) := by decide +kernel
theorem dX11_linked_64 : decode cX11_linked 64 = .ok (.ireturn, 1) := by decide +kernel
theorem dX11_linked_65 : decode cX11_linked 65 = .ok (.aload_n 0, 1) := by decide +kernel
theorem dX11_linked_66 : decode cX11_linked 66 = .ok (.getfield 57, 3) := by decide +kernel
theorem dX11_linked_69 : decode cX11_linked 69 = .ok (.getfield 349, 3) := by decide +kernel
theorem dX11_linked_72 : decode cX11_linked 72 = .ok (.getfield 362, 3) := by decide +kernel
theorem dX11_linked_75 : decode cX11_linked 75 = .ok (.iload_n 1, 1) := by decide +kernel
theorem dX11_linked_76 : decode cX11_linked 76 = .ok (.iaload, 1) := by decide +kernel
theorem dX11_linked_77 : decode cX11_linked 77 = .ok (.ireturn, 1) := by decide +kernel
theorem dX11_linked_78 : decode cX11_linked 78 = .ok (.aload_n 0, 1) := by decide +kernel
theorem dX11_linked_79 : decode cX11_linked 79 = .ok (.getfield 57, 3) := by decide +kernel
theorem dX11_linked_82 : decode cX11_linked 82 = .ok (.getfield 349, 3) := by decide +kernel
theorem dX11_linked_85 : decode cX11_linked 85 = .ok (.getfield 365, 3) := by decide +kernel
theorem dX11_linked_88 : decode cX11_linked 88 = .ok (.iload_n 1, 1) := by decide +kernel
theorem dX11_linked_89 : decode cX11_linked 89 = .ok (.iaload, 1) := by decide +kernel
theorem dX11_linked_90 : decode cX11_linked 90 = .ok (.ireturn, 1) := by decide +kernel
theorem dX11_linked_91 : decode cX11_linked 91 = .ok (.aload_n 0, 1) := by decide +kernel
theorem dX11_linked_92 : decode cX11_linked 92 = .ok (.getfield 57, 3) := by decide +kernel
theorem dX11_linked_95 : decode cX11_linked 95 = .ok (.iload_n 1, 1) := by decide +kernel
theorem dX11_linked_96 : decode cX11_linked 96 = .ok (.invokevirtual 368, 3) := by decide +kernel
theorem dX11_linked_99 : decode cX11_linked 99 = .ok (.ifCond .ne 7, 3) := by decide +kernel
theorem dX11_linked_102 : decode cX11_linked 102 = .ok (.iconst 0, 1) := by decide +kernel
theorem dX11_linked_103 : decode cX11_linked 103 = .ok (.goto 4, 3) := by decide +kernel
theorem dX11_linked_106 : decode cX11_linked 106 = .ok (.iconst 1, 1) := by decide +kernel
theorem dX11_linked_107 : decode cX11_linked 107 = .ok (.ireturn, 1) := by decide +kernel
theorem dX11_linked_108 : decode cX11_linked 108 = .ok (.aload_n 0, 1) := by decide +kernel
theorem dX11_linked_109 : decode cX11_linked 109 = .ok (.getfield 57, 3) := by decide +kernel
theorem dX11_linked_112 : decode cX11_linked 112 = .ok (.iload_n 1, 1) := by decide +kernel
theorem dX11_linked_113 : decode cX11_linked 113 = .ok (.invokevirtual 368, 3) := by decide +kernel
theorem dX11_linked_116 : decode cX11_linked 116 = .ok (.ireturn, 1) := by decide +kernel
theorem dX11_linked_117 : decode cX11_linked 117 = .ok (.iconst (-1), 1) := by decide +kernel
theorem dX11_linked_118 : decode cX11_linked 118 = .ok (.ireturn, 1) := by decide +kernel
theorem dX11_breaks_0 : decode cX11_breaks 0 = .ok (.aload_n 0, 1) := by decide +kernel
theorem dX11_breaks_1 : decode cX11_breaks 1 = .ok (.getfield 57, 3) := by decide +kernel
theorem dX11_breaks_4 : decode cX11_breaks 4 = .ok (.iload_n 1, 1) := by decide +kernel
theorem dX11_breaks_5 : decode cX11_breaks 5 = .ok (.invokevirtual 145, 3) := by decide +kernel
theorem dX11_breaks_8 : decode cX11_breaks 8 = .ok (.ifCond .eq 10, 3) := by decide +kernel
theorem dX11_breaks_11 : decode cX11_breaks 11 = .ok (.iload_n 2, 1) := by decide +kernel
theorem dX11_breaks_12 : decode cX11_breaks 12 = .ok (.invokestatic 188, 3) := by decide +kernel
theorem dX11_breaks_15 : decode cX11_breaks 15 = .ok (.ifCond .ne 6, 3) := by decide +kernel
theorem dX11_breaks_18 : decode cX11_breaks 18 = .ok (.ldc 228, 2) := by decide +kernel
theorem dX11_breaks_20 : decode cX11_breaks 20 = .ok (.ireturn, 1) := by decide +kernel
theorem dX11_breaks_21 : decode cX11_breaks 21 = .ok (.aload_n 0, 1) := by decide +kernel
theorem dX11_breaks_22 : decode cX11_breaks 22 = .ok (.getfield 57, 3) := by decide +kernel
theorem dX11_breaks_25 : decode cX11_breaks 25 = .ok (.iload_n 1, 1) := by decide +kernel
theorem dX11_breaks_26 : decode cX11_breaks 26 = .ok (.invokevirtual 232, 3) := by decide +kernel
theorem dX11_breaks_29 : decode cX11_breaks 29 = .ok (.ifCond .eq 15, 3) := by decide +kernel
theorem dX11_breaks_32 : decode cX11_breaks 32 = .ok (.iload_n 2, 1) := by decide +kernel
theorem dX11_breaks_33 : decode cX11_breaks 33 = .ok (.aload_n 0, 1) := by decide +kernel
theorem dX11_breaks_34 : decode cX11_breaks 34 = .ok (.getfield 57, 3) := by decide +kernel
theorem dX11_breaks_37 : decode cX11_breaks 37 = .ok (.iload_n 1, 1) := by decide +kernel
theorem dX11_breaks_38 : decode cX11_breaks 38 = .ok (.invokevirtual 161, 3) := by decide +kernel
theorem dX11_breaks_41 : decode cX11_breaks 41 = .ok (.if_icmp .ge 6, 3) := by decide +kernel
theorem dX11_breaks_44 : decode cX11_breaks 44 = .ok (.ldc 228, 2) := by decide +kernel
theorem dX11_breaks_46 : decode cX11_breaks 46 = .ok (.ireturn, 1) := by decide +kernel
theorem dX11_breaks_47 : decode cX11_breaks 47 = .ok (.aload_n 0, 1) := by decide +kernel
theorem dX11_breaks_48 : decode cX11_breaks 48 = .ok (.getfield 61, 3) := by decide +kernel
theorem dX11_breaks_51 : decode cX11_breaks 51 = .ok (.aload_n 0, 1) := by decide +kernel
theorem dX11_breaks_52 : decode cX11_breaks 52 = .ok (.getfield 57, 3) := by decide +kernel
theorem dX11_breaks_55 : decode cX11_breaks 55 = .ok (.invokevirtual 371, 3) := by decide +kernel
theorem dX11_breaks_58 : decode cX11_breaks 58 = .ok (.aload_n 0, 1) := by decide +kernel
theorem dX11_breaks_59 : decode cX11_breaks 59 = .ok (.getfield 61, 3) := by decide +kernel
theorem dX11_breaks_62 : decode cX11_breaks 62 = .ok (.iload_n 1, 1) := by decide +kernel
theorem dX11_breaks_63 : decode cX11_breaks 63 = .ok (.iload_n 2, 1) := by decide +kernel
theorem dX11_breaks_64 : decode cX11_breaks 64 = .ok (.invokevirtual 331, 3) := by decide +kernel
theorem dX11_breaks_67 : decode cX11_breaks 67 = .ok (.aload_n 0, 1) := by decide +kernel
theorem dX11_breaks_68 : decode cX11_breaks 68 = .ok (.getfield 61, 3) := by decide +kernel
theorem dX11_breaks_71 : decode cX11_breaks 71 = .ok (.invokevirtual 375, 3) := by decide +kernel
theorem dX11_breaks_74 : decode cX11_breaks 74 = .ok (.aload_n 0, 1) := by decide +kernel
theorem dX11_breaks_75 : decode cX11_breaks 75 = .ok (.getfield 57, 3) := by decide +kernel
theorem dX11_breaks_78 : decode cX11_breaks 78 = .ok (.invokevirtual 375, 3) := by decide +kernel
theorem dX11_breaks_81 : decode cX11_breaks 81 = .ok (.isub, 1) := by decide +kernel
theorem dX11_breaks_82 : decode cX11_breaks 82 = .ok (.ireturn, 1) := by decide +kernel
theorem dX11_round_0 : decode cX11_round 0 = .ok (.aload_n 0, 1) := by decide +kernel
theorem dX11_round_1 : decode cX11_round 1 = .ok (.getfield 57, 3) := by decide +kernel
theorem dX11_round_4 : decode cX11_round 4 = .ok (.iload_n 1, 1) := by decide +kernel
theorem dX11_round_5 : decode cX11_round 5 = .ok (.iload_n 2, 1) := by decide +kernel
theorem dX11_round_6 : decode cX11_round 6 = .ok (.iload_n 3, 1) := by decide +kernel
theorem dX11_round_7 : decode cX11_round 7 = .ok (.invokevirtual 378, 3) := by decide +kernel
theorem dX11_round_10 : decode cX11_round 10 = .ok (.ifCond .ne 6, 3) := by decide +kernel
theorem dX11_round_13 : decode cX11_round 13 = .ok (.ldc 228, 2) := by decide +kernel
theorem dX11_round_15 : decode cX11_round 15 = .ok (.ireturn, 1) := by decide +kernel
theorem dX11_round_16 : decode cX11_round 16 = .ok (.aload_n 0, 1) := by decide +kernel
theorem dX11_round_17 : decode cX11_round 17 = .ok (.getfield 57, 3) := by decide +kernel
theorem dX11_round_20 : decode cX11_round 20 = .ok (.iload_n 1, 1) := by decide +kernel
theorem dX11_round_21 : decode cX11_round 21 = .ok (.iload_n 2, 1) := by decide +kernel
theorem dX11_round_22 : decode cX11_round 22 = .ok (.invokevirtual 382, 3) := by decide +kernel
theorem dX11_round_25 : decode cX11_round 25 = .ok (.aload_n 0, 1) := by decide +kernel
theorem dX11_round_26 : decode cX11_round 26 = .ok (.getfield 57, 3) := by decide +kernel
theorem dX11_round_29 : decode cX11_round 29 = .ok (.iload_n 2, 1) := by decide +kernel
theorem dX11_round_30 : decode cX11_round 30 = .ok (.iload_n 3, 1) := by decide +kernel
theorem dX11_round_31 : decode cX11_round 31 = .ok (.invokevirtual 382, 3) := by decide +kernel
theorem dX11_round_34 : decode cX11_round 34 = .ok (.iadd, 1) := by decide +kernel
theorem dX11_round_35 : decode cX11_round 35 = .ok (.aload_n 0, 1) := by decide +kernel
theorem dX11_round_36 : decode cX11_round 36 = .ok (.getfield 57, 3) := by decide +kernel
theorem dX11_round_39 : decode cX11_round 39 = .ok (.iload_n 3, 1) := by decide +kernel
theorem dX11_round_40 : decode cX11_round 40 = .ok (.iload_n 1, 1) := by decide +kernel
theorem dX11_round_41 : decode cX11_round 41 = .ok (.invokevirtual 382, 3) := by decide +kernel
theorem dX11_round_44 : decode cX11_round 44 = .ok (.iadd, 1) := by decide +kernel
theorem dX11_round_45 : decode cX11_round 45 = .ok (.istore 4, 2) := by decide +kernel
theorem dX11_round_47 : decode cX11_round 47 = .ok (.aload_n 0, 1) := by decide +kernel
theorem dX11_round_48 : decode cX11_round 48 = .ok (.getfield 57, 3) := by decide +kernel
theorem dX11_round_51 : decode cX11_round 51 = .ok (.iload_n 1, 1) := by decide +kernel
theorem dX11_round_52 : decode cX11_round 52 = .ok (.iload_n 2, 1) := by decide +kernel
theorem dX11_round_53 : decode cX11_round 53 = .ok (.invokevirtual 291, 3) := by decide +kernel
theorem dX11_round_56 : decode cX11_round 56 = .ok (.aload_n 0, 1) := by decide +kernel
theorem dX11_round_57 : decode cX11_round 57 = .ok (.getfield 57, 3) := by decide +kernel
theorem dX11_round_60 : decode cX11_round 60 = .ok (.iload_n 2, 1) := by decide +kernel
theorem dX11_round_61 : decode cX11_round 61 = .ok (.iload_n 3, 1) := by decide +kernel
theorem dX11_round_62 : decode cX11_round 62 = .ok (.invokevirtual 291, 3) := by decide +kernel
theorem dX11_round_65 : decode cX11_round 65 = .ok (.aload_n 0, 1) := by decide +kernel
theorem dX11_round_66 : decode cX11_round 66 = .ok (.getfield 57, 3) := by decide +kernel
theorem dX11_round_69 : decode cX11_round 69 = .ok (.iload_n 3, 1) := by decide +kernel
theorem dX11_round_70 : decode cX11_round 70 = .ok (.iload_n 1, 1) := by decide +kernel
theorem dX11_round_71 : decode cX11_round 71 = .ok (.invokevirtual 291, 3) := by decide +kernel
theorem dX11_round_74 : decode cX11_round 74 = .ok (.aload_n 0, 1) := by decide +kernel
theorem dX11_round_75 : decode cX11_round 75 = .ok (.getfield 57, 3) := by decide +kernel
theorem dX11_round_78 : decode cX11_round 78 = .ok (.getfield 255, 3) := by decide +kernel
theorem dX11_round_81 : decode cX11_round 81 = .ok (.iload_n 1, 1) := by decide +kernel
theorem dX11_round_82 : decode cX11_round 82 = .ok (.invokevirtual 270, 3) := by decide +kernel
theorem dX11_round_85 : decode cX11_round 85 = .ok (.aload_n 0, 1) := by decide +kernel
theorem dX11_round_86 : decode cX11_round 86 = .ok (.getfield 57, 3) := by decide +kernel
theorem dX11_round_89 : decode cX11_round 89 = .ok (.getfield 255, 3) := by decide +kernel
theorem dX11_round_92 : decode cX11_round 92 = .ok (.iload_n 2, 1) := by decide +kernel
theorem dX11_round_93 : decode cX11_round 93 = .ok (.invokevirtual 270, 3) := by decide +kernel
theorem dX11_round_96 : decode cX11_round 96 = .ok (.aload_n 0, 1) := by decide +kernel
theorem dX11_round_97 : decode cX11_round 97 = .ok (.getfield 57, 3) := by decide +kernel
theorem dX11_round_100 : decode cX11_round 100 = .ok (.getfield 255, 3) := by decide +kernel
theorem dX11_round_103 : decode cX11_round 103 = .ok (.iload_n 3, 1) := by decide +kernel
theorem dX11_round_104 : decode cX11_round 104 = .ok (.invokevirtual 270, 3) := by decide +kernel
theorem dX11_round_107 : decode cX11_round 107 = .ok (.iload 4, 2) := by decide +kernel
theorem dX11_round_109 : decode cX11_round 109 = .ok (.ireturn, 1) := by decide +kernel
theorem dX11_cancelAll_0 : decode cX11_cancelAll 0 = .ok (.iload_n 1, 1) := by decide +kernel
theorem dX11_cancelAll_1 : decode cX11_cancelAll 1 = .ok (.invokestatic 91, 3) := by decide +kernel
theorem dX11_cancelAll_4 : decode cX11_cancelAll 4 = .ok (.ifCond .ne 5, 3) := by decide +kernel
theorem dX11_cancelAll_7 : decode cX11_cancelAll 7 = .ok (.iconst (-1), 1) := by decide +kernel
theorem dX11_cancelAll_8 : decode cX11_cancelAll 8 = .ok (.ireturn, 1) := by decide +kernel
theorem dX11_cancelAll_9 : decode cX11_cancelAll 9 = .ok (.iconst 0, 1) := by decide +kernel
theorem dX11_cancelAll_10 : decode cX11_cancelAll 10 = .ok (.istore_n 2, 1) := by decide +kernel
theorem dX11_cancelAll_11 : decode cX11_cancelAll 11 = .ok (.iconst 0, 1) := by decide +kernel
theorem dX11_cancelAll_12 : decode cX11_cancelAll 12 = .ok (.istore_n 3, 1) := by decide +kernel
theorem dX11_cancelAll_13 : decode cX11_cancelAll 13 = .ok (.iload_n 3, 1) := by decide +kernel
theorem dX11_cancelAll_14 : decode cX11_cancelAll 14 = .ok (.bipush 20, 2) := by decide +kernel
theorem dX11_cancelAll_16 : decode cX11_cancelAll 16 = .ok (.if_icmp .ge 47, 3) := by decide +kernel
theorem dX11_cancelAll_19 : decode cX11_cancelAll 19 = .ok (.aload_n 0, 1) := by decide +kernel
theorem dX11_cancelAll_20 : decode cX11_cancelAll 20 = .ok (.getfield 57, 3) := by decide +kernel
theorem dX11_cancelAll_23 : decode cX11_cancelAll 23 = .ok (.iload_n 3, 1) := by decide +kernel
theorem dX11_cancelAll_24 : decode cX11_cancelAll 24 = .ok (.iload_n 1, 1) := by decide +kernel
theorem dX11_cancelAll_25 : decode cX11_cancelAll 25 = .ok (.invokevirtual 238, 3) := by decide +kernel
theorem dX11_cancelAll_28 : decode cX11_cancelAll 28 = .ok (.ifCond .eq 29, 3) := by decide +kernel
theorem dX11_cancelAll_31 : decode cX11_cancelAll 31 = .ok (.aload_n 0, 1) := by decide +kernel
theorem dX11_cancelAll_32 : decode cX11_cancelAll 32 = .ok (.getfield 57, 3) := by decide +kernel
theorem dX11_cancelAll_35 : decode cX11_cancelAll 35 = .ok (.iload_n 3, 1) := by decide +kernel
theorem dX11_cancelAll_36 : decode cX11_cancelAll 36 = .ok (.invokevirtual 232, 3) := by decide +kernel
theorem dX11_cancelAll_39 : decode cX11_cancelAll 39 = .ok (.ifCond .eq 18, 3) := by decide +kernel
theorem dX11_cancelAll_42 : decode cX11_cancelAll 42 = .ok (.aload_n 0, 1) := by decide +kernel
theorem dX11_cancelAll_43 : decode cX11_cancelAll 43 = .ok (.getfield 57, 3) := by decide +kernel
theorem dX11_cancelAll_46 : decode cX11_cancelAll 46 = .ok (.iload_n 3, 1) := by decide +kernel
theorem dX11_cancelAll_47 : decode cX11_cancelAll 47 = .ok (.invokevirtual 222, 3) := by decide +kernel
theorem dX11_cancelAll_50 : decode cX11_cancelAll 50 = .ok (.pop, 1) := by decide +kernel
theorem dX11_cancelAll_51 : decode cX11_cancelAll 51 = .ok (.iload_n 2, 1) := by decide +kernel
theorem dX11_cancelAll_52 : decode cX11_cancelAll 52 = .ok (.iconst 1, 1) := by decide +kernel
theorem dX11_cancelAll_53 : decode cX11_cancelAll 53 = .ok (.iload_n 3, 1) := by decide +kernel
theorem dX11_cancelAll_54 : decode cX11_cancelAll 54 = .ok (.ishl, 1) := by decide +kernel
theorem dX11_cancelAll_55 : decode cX11_cancelAll 55 = .ok (.ior, 1) := by decide +kernel
theorem dX11_cancelAll_56 : decode cX11_cancelAll 56 = .ok (.istore_n 2, 1) := by decide +kernel
theorem dX11_cancelAll_57 : decode cX11_cancelAll 57 = .ok (.iinc 3 1, 3) := by decide +kernel
theorem dX11_cancelAll_60 : decode cX11_cancelAll 60 = .ok (.goto (-47), 3) := by decide +kernel
theorem dX11_cancelAll_63 : decode cX11_cancelAll 63 = .ok (.iload_n 2, 1) := by decide +kernel
theorem dX11_cancelAll_64 : decode cX11_cancelAll 64 = .ok (.ireturn, 1) := by decide +kernel
theorem dX11_byRule_0 : decode cX11_byRule 0 = .ok (.iload_n 1, 1) := by decide +kernel
theorem dX11_byRule_1 : decode cX11_byRule 1 = .ok (.ifCond .lt 17, 3) := by decide +kernel
theorem dX11_byRule_4 : decode cX11_byRule 4 = .ok (.iload_n 1, 1) := by decide +kernel
theorem dX11_byRule_5 : decode cX11_byRule 5 = .ok (.iconst 2, 1) := by decide +kernel
theorem dX11_byRule_6 : decode cX11_byRule 6 = .ok (.if_icmp .gt 12, 3) := by decide +kernel
theorem dX11_byRule_9 : decode cX11_byRule 9 = .ok (.iload_n 2, 1) := by decide +kernel
theorem dX11_byRule_10 : decode cX11_byRule 10 = .ok (.ifCond .lt 8, 3) := by decide +kernel
theorem dX11_byRule_13 : decode cX11_byRule 13 = .ok (.iload_n 2, 1) := by decide +kernel
theorem dX11_byRule_14 : decode cX11_byRule 14 = .ok (.iconst 3, 1) := by decide +kernel
theorem dX11_byRule_15 : decode cX11_byRule 15 = .ok (.if_icmp .le 5, 3) := by decide +kernel
theorem dX11_byRule_18 : decode cX11_byRule 18 = .ok (.iconst (-1), 1) := by decide +kernel
theorem dX11_byRule_19 : decode cX11_byRule 19 = .ok (.ireturn, 1) := by decide +kernel
theorem dX11_byRule_20 : decode cX11_byRule 20 = .ok (.aload_n 0, 1) := by decide +kernel
theorem dX11_byRule_21 : decode cX11_byRule 21 = .ok (.getfield 57, 3) := by decide +kernel
theorem dX11_byRule_24 : decode cX11_byRule 24 = .ok (.getfield 87, 3) := by decide +kernel
theorem dX11_byRule_27 : decode cX11_byRule 27 = .ok (.getfield 90, 3) := by decide +kernel
theorem dX11_byRule_30 : decode cX11_byRule 30 = .ok (.ifCond .ne 6, 3) := by decide +kernel
theorem dX11_byRule_33 : decode cX11_byRule 33 = .ok (.bipush (-2), 2) := by decide +kernel
theorem dX11_byRule_35 : decode cX11_byRule 35 = .ok (.ireturn, 1) := by decide +kernel
theorem dX11_byRule_36 : decode cX11_byRule 36 = .ok (.aload_n 0, 1) := by decide +kernel
theorem dX11_byRule_37 : decode cX11_byRule 37 = .ok (.getfield 61, 3) := by decide +kernel
theorem dX11_byRule_40 : decode cX11_byRule 40 = .ok (.aload_n 0, 1) := by decide +kernel
theorem dX11_byRule_41 : decode cX11_byRule 41 = .ok (.getfield 57, 3) := by decide +kernel
theorem dX11_byRule_44 : decode cX11_byRule 44 = .ok (.invokevirtual 371, 3) := by decide +kernel
theorem dX11_byRule_47 : decode cX11_byRule 47 = .ok (.aload_n 0, 1) := by decide +kernel
theorem dX11_byRule_48 : decode cX11_byRule 48 = .ok (.getfield 43, 3) := by decide +kernel
theorem dX11_byRule_51 : decode cX11_byRule 51 = .ok (.aload_n 0, 1) := by decide +kernel
theorem dX11_byRule_52 : decode cX11_byRule 52 = .ok (.getfield 61, 3) := by decide +kernel
theorem dX11_byRule_55 : decode cX11_byRule 55 = .ok (.iload_n 1, 1) := by decide +kernel
theorem dX11_byRule_56 : decode cX11_byRule 56 = .ok (.invokevirtual 206, 3) := by decide +kernel
theorem dX11_byRule_59 : decode cX11_byRule 59 = .ok (.iload_n 2, 1) := by decide +kernel
theorem dX11_byRule_60 : decode cX11_byRule 60 = .ok (.tableswitch 52 0 2 #[28, 36, 44], 28) := by decide +kernel
theorem dX11_byRule_88 : decode cX11_byRule 88 = .ok (.aload_n 0, 1) := by decide +kernel
theorem dX11_byRule_89 : decode cX11_byRule 89 = .ok (.getfield 61, 3) := by decide +kernel
theorem dX11_byRule_92 : decode cX11_byRule 92 = .ok (.invokevirtual 385, 3) := by decide +kernel
theorem dX11_byRule_95 : decode cX11_byRule 95 = .ok (.ireturn, 1) := by decide +kernel
theorem dX11_byRule_96 : decode cX11_byRule 96 = .ok (.aload_n 0, 1) := by decide +kernel
theorem dX11_byRule_97 : decode cX11_byRule 97 = .ok (.getfield 61, 3) := by decide +kernel
theorem dX11_byRule_100 : decode cX11_byRule 100 = .ok (.invokevirtual 388, 3) := by decide +kernel
theorem dX11_byRule_103 : decode cX11_byRule 103 = .ok (.ireturn, 1) := by decide +kernel
theorem dX11_byRule_104 : decode cX11_byRule 104 = .ok (.aload_n 0, 1) := by decide +kernel
theorem dX11_byRule_105 : decode cX11_byRule 105 = .ok (.getfield 61, 3) := by decide +kernel
theorem dX11_byRule_108 : decode cX11_byRule 108 = .ok (.invokevirtual 391, 3) := by decide +kernel
theorem dX11_byRule_111 : decode cX11_byRule 111 = .ok (.ireturn, 1) := by decide +kernel
theorem dX11_byRule_112 : decode cX11_byRule 112 = .ok (.aload_n 0, 1) := by decide +kernel
theorem dX11_byRule_113 : decode cX11_byRule 113 = .ok (.getfield 61, 3) := by decide +kernel
theorem dX11_byRule_116 : decode cX11_byRule 116 = .ok (.invokevirtual 346, 3) := by decide +kernel
theorem dX11_byRule_119 : decode cX11_byRule 119 = .ok (.ireturn, 1) := by decide +kernel
theorem dX11_demand_0 : decode cX11_demand 0 = .ok (.iload_n 1, 1) := by decide +kernel
theorem dX11_demand_1 : decode cX11_demand 1 = .ok (.invokestatic 119, 3) := by decide +kernel
theorem dX11_demand_4 : decode cX11_demand 4 = .ok (.ifCond .ne 5, 3) := by decide +kernel
theorem dX11_demand_7 : decode cX11_demand 7 = .ok (.iconst (-1), 1) := by decide +kernel
theorem dX11_demand_8 : decode cX11_demand 8 = .ok (.ireturn, 1) := by decide +kernel
theorem dX11_demand_9 : decode cX11_demand 9 = .ok (.iload_n 2, 1) := by decide +kernel
theorem dX11_demand_10 : decode cX11_demand 10 = .ok (.tableswitch 56 0 2 #[26, 35, 47], 26) := by decide +kernel
theorem dX11_demand_36 : decode cX11_demand 36 = .ok (.aload_n 0, 1) := by decide +kernel
theorem dX11_demand_37 : decode cX11_demand 37 = .ok (.getfield 57, 3) := by decide +kernel
theorem dX11_demand_40 : decode cX11_demand 40 = .ok (.iload_n 1, 1) := by decide +kernel
theorem dX11_demand_41 : decode cX11_demand 41 = .ok (.invokevirtual 394, 3) := by decide +kernel
theorem dX11_demand_44 : decode cX11_demand 44 = .ok (.ireturn, 1) := by decide +kernel
theorem dX11_demand_45 : decode cX11_demand 45 = .ok (.aload_n 0, 1) := by decide +kernel
theorem dX11_demand_46 : decode cX11_demand 46 = .ok (.getfield 57, 3) := by decide +kernel
theorem dX11_demand_49 : decode cX11_demand 49 = .ok (.getfield 125, 3) := by decide +kernel
theorem dX11_demand_52 : decode cX11_demand 52 = .ok (.iload_n 1, 1) := by decide +kernel
theorem dX11_demand_53 : decode cX11_demand 53 = .ok (.invokevirtual 129, 3) := by decide +kernel
theorem dX11_demand_56 : decode cX11_demand 56 = .ok (.ireturn, 1) := by decide +kernel
theorem dX11_demand_57 : decode cX11_demand 57 = .ok (.aload_n 0, 1) := by decide +kernel
theorem dX11_demand_58 : decode cX11_demand 58 = .ok (.getfield 57, 3) := by decide +kernel
theorem dX11_demand_61 : decode cX11_demand 61 = .ok (.iload_n 1, 1) := by decide +kernel
theorem dX11_demand_62 : decode cX11_demand 62 = .ok (.invokevirtual 397, 3) := by decide +kernel
theorem dX11_demand_65 : decode cX11_demand 65 = .ok (.ireturn, 1) := by decide +kernel
theorem dX11_demand_66 : decode cX11_demand 66 = .ok (.iconst (-1), 1) := by decide +kernel
theorem dX11_demand_67 : decode cX11_demand 67 = .ok (.ireturn, 1) := by decide +kernel
theorem dX11_crowded_0 : decode cX11_crowded 0 = .ok (.iload_n 1, 1) := by decide +kernel
theorem dX11_crowded_1 : decode cX11_crowded 1 = .ok (.ifCond .lt 8, 3) := by decide +kernel
theorem dX11_crowded_4 : decode cX11_crowded 4 = .ok (.iload_n 1, 1) := by decide +kernel
theorem dX11_crowded_5 : decode cX11_crowded 5 = .ok (.iconst 1, 1) := by decide +kernel
theorem dX11_crowded_6 : decode cX11_crowded 6 = .ok (.if_icmp .le 5, 3) := by decide +kernel
theorem dX11_crowded_9 : decode cX11_crowded 9 = .ok (.iconst (-1), 1) := by decide +kernel
theorem dX11_crowded_10 : decode cX11_crowded 10 = .ok (.ireturn, 1) := by decide +kernel
theorem dX11_crowded_11 : decode cX11_crowded 11 = .ok (.iconst 0, 1) := by decide +kernel
theorem dX11_crowded_12 : decode cX11_crowded 12 = .ok (.istore_n 2, 1) := by decide +kernel
theorem dX11_crowded_13 : decode cX11_crowded 13 = .ok (.iconst 0, 1) := by decide +kernel
theorem dX11_crowded_14 : decode cX11_crowded 14 = .ok (.istore_n 3, 1) := by decide +kernel
theorem dX11_crowded_15 : decode cX11_crowded 15 = .ok (.iconst 0, 1) := by decide +kernel
theorem dX11_crowded_16 : decode cX11_crowded 16 = .ok (.istore 4, 2) := by decide +kernel
theorem dX11_crowded_18 : decode cX11_crowded 18 = .ok (.iload 4, 2) := by decide +kernel
theorem dX11_crowded_20 : decode cX11_crowded 20 = .ok (.bipush 20, 2) := by decide +kernel
theorem dX11_crowded_22 : decode cX11_crowded 22 = .ok (.if_icmp .ge 81, 3) := by decide +kernel
theorem dX11_crowded_25 : decode cX11_crowded 25 = .ok (.aload_n 0, 1) := by decide +kernel
theorem dX11_crowded_26 : decode cX11_crowded 26 = .ok (.getfield 57, 3) := by decide +kernel
theorem dX11_crowded_29 : decode cX11_crowded 29 = .ok (.iload 4, 2) := by decide +kernel
theorem dX11_crowded_31 : decode cX11_crowded 31 = .ok (.invokevirtual 164, 3) := by decide +kernel
theorem dX11_crowded_34 : decode cX11_crowded 34 = .ok (.ifCond .ne 6, 3) := by decide +kernel
theorem dX11_crowded_37 : decode cX11_crowded 37 = .ok (.goto 60, 3) := by decide +kernel
theorem dX11_crowded_40 : decode cX11_crowded 40 = .ok (.iconst 0, 1) := by decide +kernel
theorem dX11_crowded_41 : decode cX11_crowded 41 = .ok (.aload_n 0, 1) := by decide +kernel
theorem dX11_crowded_42 : decode cX11_crowded 42 = .ok (.getfield 57, 3) := by decide +kernel
theorem dX11_crowded_45 : decode cX11_crowded 45 = .ok (.iload 4, 2) := by decide +kernel
theorem dX11_crowded_47 : decode cX11_crowded 47 = .ok (.invokevirtual 400, 3) := by decide +kernel
theorem dX11_crowded_50 : decode cX11_crowded 50 = .ok (.invokestatic 403, 3) := by decide +kernel
theorem dX11_crowded_53 : decode cX11_crowded 53 = .ok (.istore 5, 2) := by decide +kernel
theorem dX11_crowded_55 : decode cX11_crowded 55 = .ok (.aload_n 0, 1) := by decide +kernel
theorem dX11_crowded_56 : decode cX11_crowded 56 = .ok (.getfield 57, 3) := by decide +kernel
theorem dX11_crowded_59 : decode cX11_crowded 59 = .ok (.iload 5, 2) := by decide +kernel
theorem dX11_crowded_61 : decode cX11_crowded 61 = .ok (.invokevirtual 408, 3) := by decide +kernel
theorem dX11_crowded_64 : decode cX11_crowded 64 = .ok (.invokestatic 411, 3) := by decide +kernel
theorem dX11_crowded_67 : decode cX11_crowded 67 = .ok (.istore 6, 2) := by decide +kernel
theorem dX11_crowded_69 : decode cX11_crowded 69 = .ok (.iload 6, 2) := by decide +kernel
theorem dX11_crowded_71 : decode cX11_crowded 71 = .ok (.iload_n 2, 1) := by decide +kernel
theorem dX11_crowded_72 : decode cX11_crowded 72 = .ok (.if_icmp .gt 19, 3) := by decide +kernel
theorem dX11_crowded_75 : decode cX11_crowded 75 = .ok (.iload 6, 2) := by decide +kernel
theorem dX11_crowded_77 : decode cX11_crowded 77 = .ok (.iload_n 2, 1) := by decide +kernel
theorem dX11_crowded_78 : decode cX11_crowded 78 = .ok (.if_icmp .ne 19, 3) := by decide +kernel
theorem dX11_crowded_81 : decode cX11_crowded 81 = .ok (.iload_n 2, 1) := by decide +kernel
theorem dX11_crowded_82 : decode cX11_crowded 82 = .ok (.ifCond .le 15, 3) := by decide +kernel
theorem dX11_crowded_85 : decode cX11_crowded 85 = .ok (.iload 5, 2) := by decide +kernel
theorem dX11_crowded_87 : decode cX11_crowded 87 = .ok (.iload_n 3, 1) := by decide +kernel
theorem dX11_crowded_88 : decode cX11_crowded 88 = .ok (.if_icmp .ge 9, 3) := by decide +kernel
theorem dX11_crowded_91 : decode cX11_crowded 91 = .ok (.iload 6, 2) := by decide +kernel
theorem dX11_crowded_93 : decode cX11_crowded 93 = .ok (.istore_n 2, 1) := by decide +kernel
theorem dX11_crowded_94 : decode cX11_crowded 94 = .ok (.iload 5, 2) := by decide +kernel
theorem dX11_crowded_96 : decode cX11_crowded 96 = .ok (.istore_n 3, 1) := by decide +kernel
theorem dX11_crowded_97 : decode cX11_crowded 97 = .ok (.iinc 4 1, 3) := by decide +kernel
theorem dX11_crowded_100 : decode cX11_crowded 100 = .ok (.goto (-82), 3) := by decide +kernel
theorem dX11_crowded_103 : decode cX11_crowded 103 = .ok (.iload_n 1, 1) := by decide +kernel
theorem dX11_crowded_104 : decode cX11_crowded 104 = .ok (.ifCond .ne 7, 3) := by decide +kernel
theorem dX11_crowded_107 : decode cX11_crowded 107 = .ok (.iload_n 2, 1) := by decide +kernel
theorem dX11_crowded_108 : decode cX11_crowded 108 = .ok (.goto 4, 3) := by decide +kernel
theorem dX11_crowded_111 : decode cX11_crowded 111 = .ok (.iload_n 3, 1) := by decide +kernel
theorem dX11_crowded_112 : decode cX11_crowded 112 = .ok (.ireturn, 1) := by decide +kernel
theorem dX11_would_0 : decode cX11_would 0 = .ok (.iload_n 1, 1) := by decide +kernel
theorem dX11_would_1 : decode cX11_would 1 = .ok (.invokestatic 122, 3) := by decide +kernel
theorem dX11_would_4 : decode cX11_would 4 = .ok (.ifCond .eq 22, 3) := by decide +kernel
theorem dX11_would_7 : decode cX11_would 7 = .ok (.iload_n 2, 1) := by decide +kernel
theorem dX11_would_8 : decode cX11_would 8 = .ok (.iload_n 3, 1) := by decide +kernel
theorem dX11_would_9 : decode cX11_would 9 = .ok (.invokestatic 138, 3) := by decide +kernel
theorem dX11_would_12 : decode cX11_would 12 = .ok (.ifCond .eq 14, 3) := by decide +kernel
theorem dX11_would_15 : decode cX11_would 15 = .ok (.iload 4, 2) := by decide +kernel
theorem dX11_would_17 : decode cX11_would 17 = .ok (.ifCond .lt 9, 3) := by decide +kernel
theorem dX11_would_20 : decode cX11_would 20 = .ok (.iload 4, 2) := by decide +kernel
theorem dX11_would_22 : decode cX11_would 22 = .ok (.iconst 2, 1) := by decide +kernel
theorem dX11_would_23 : decode cX11_would 23 = .ok (.if_icmp .le 5, 3) := by decide +kernel
theorem dX11_would_26 : decode cX11_would 26 = .ok (.iconst (-1), 1) := by decide +kernel
theorem dX11_would_27 : decode cX11_would 27 = .ok (.ireturn, 1) := by decide +kernel
theorem dX11_would_28 : decode cX11_would 28 = .ok (.aload_n 0, 1) := by decide +kernel
theorem dX11_would_29 : decode cX11_would 29 = .ok (.getfield 57, 3) := by decide +kernel
theorem dX11_would_32 : decode cX11_would 32 = .ok (.getfield 87, 3) := by decide +kernel
theorem dX11_would_35 : decode cX11_would 35 = .ok (.getfield 90, 3) := by decide +kernel
theorem dX11_would_38 : decode cX11_would 38 = .ok (.ifCond .ne 6, 3) := by decide +kernel
theorem dX11_would_41 : decode cX11_would 41 = .ok (.bipush (-2), 2) := by decide +kernel
theorem dX11_would_43 : decode cX11_would 43 = .ok (.ireturn, 1) := by decide +kernel
theorem dX11_would_44 : decode cX11_would 44 = .ok (.aload_n 0, 1) := by decide +kernel
theorem dX11_would_45 : decode cX11_would 45 = .ok (.getfield 61, 3) := by decide +kernel
theorem dX11_would_48 : decode cX11_would 48 = .ok (.aload_n 0, 1) := by decide +kernel
theorem dX11_would_49 : decode cX11_would 49 = .ok (.getfield 57, 3) := by decide +kernel
theorem dX11_would_52 : decode cX11_would 52 = .ok (.invokevirtual 371, 3) := by decide +kernel
theorem dX11_would_55 : decode cX11_would 55 = .ok (.aload_n 0, 1) := by decide +kernel
theorem dX11_would_56 : decode cX11_would 56 = .ok (.getfield 61, 3) := by decide +kernel
theorem dX11_would_59 : decode cX11_would 59 = .ok (.getfield 125, 3) := by decide +kernel
theorem dX11_would_62 : decode cX11_would 62 = .ok (.iload_n 2, 1) := by decide +kernel
theorem dX11_would_63 : decode cX11_would 63 = .ok (.iload_n 3, 1) := by decide +kernel
theorem dX11_would_64 : decode cX11_would 64 = .ok (.iload_n 1, 1) := by decide +kernel
theorem dX11_would_65 : decode cX11_would 65 = .ok (.invokevirtual 416, 3) := by decide +kernel
theorem dX11_would_68 : decode cX11_would 68 = .ok (.aload_n 0, 1) := by decide +kernel
theorem dX11_would_69 : decode cX11_would 69 = .ok (.getfield 43, 3) := by decide +kernel
theorem dX11_would_72 : decode cX11_would 72 = .ok (.aload_n 0, 1) := by decide +kernel
theorem dX11_would_73 : decode cX11_would 73 = .ok (.getfield 61, 3) := by decide +kernel
theorem dX11_would_76 : decode cX11_would 76 = .ok (.iconst 0, 1) := by decide +kernel
theorem dX11_would_77 : decode cX11_would 77 = .ok (.invokevirtual 206, 3) := by decide +kernel
theorem dX11_would_80 : decode cX11_would 80 = .ok (.iload 4, 2) := by decide +kernel
theorem dX11_would_82 : decode cX11_would 82 = .ok (.lookupswitch 42 #[(0, 26), (1, 34)], 26) := by decide +kernel
theorem dX11_would_108 : decode cX11_would 108 = .ok (.aload_n 0, 1) := by decide +kernel
theorem dX11_would_109 : decode cX11_would 109 = .ok (.getfield 61, 3) := by decide +kernel
theorem dX11_would_112 : decode cX11_would 112 = .ok (.invokevirtual 388, 3) := by decide +kernel
theorem dX11_would_115 : decode cX11_would 115 = .ok (.ireturn, 1) := by decide +kernel
theorem dX11_would_116 : decode cX11_would 116 = .ok (.aload_n 0, 1) := by decide +kernel
theorem dX11_would_117 : decode cX11_would 117 = .ok (.getfield 61, 3) := by decide +kernel
theorem dX11_would_120 : decode cX11_would 120 = .ok (.invokevirtual 420, 3) := by decide +kernel
theorem dX11_would_123 : decode cX11_would 123 = .ok (.ireturn, 1) := by decide +kernel
theorem dX11_would_124 : decode cX11_would 124 = .ok (.aload_n 0, 1) := by decide +kernel
theorem dX11_would_125 : decode cX11_would 125 = .ok (.getfield 61, 3) := by decide +kernel
theorem dX11_would_128 : decode cX11_would 128 = .ok (.invokevirtual 423, 3) := by decide +kernel
theorem dX11_would_131 : decode cX11_would 131 = .ok (.ireturn, 1) := by decide +kernel
theorem dX11_rateFor_0 : decode cX11_rateFor 0 = .ok (.iload_n 1, 1) := by decide +kernel
theorem dX11_rateFor_1 : decode cX11_rateFor 1 = .ok (.iload_n 2, 1) := by decide +kernel
theorem dX11_rateFor_2 : decode cX11_rateFor 2 = .ok (.invokestatic 138, 3) := by decide +kernel
theorem dX11_rateFor_5 : decode cX11_rateFor 5 = .ok (.ifCond .eq 14, 3) := by decide +kernel
theorem dX11_rateFor_8 : decode cX11_rateFor 8 = .ok (.iload_n 3, 1) := by decide +kernel
theorem dX11_rateFor_9 : decode cX11_rateFor 9 = .ok (.ifCond .lt 10, 3) := by decide +kernel
theorem dX11_rateFor_12 : decode cX11_rateFor 12 = .ok (.iload_n 3, 1) := by decide +kernel
theorem dX11_rateFor_13 : decode cX11_rateFor 13 = .ok (.sipush 1200, 3) := by decide +kernel
theorem dX11_rateFor_16 : decode cX11_rateFor 16 = .ok (.if_icmp .le 5, 3) := by decide +kernel
theorem dX11_rateFor_19 : decode cX11_rateFor 19 = .ok (.iconst (-1), 1) := by decide +kernel
theorem dX11_rateFor_20 : decode cX11_rateFor 20 = .ok (.ireturn, 1) := by decide +kernel
theorem dX11_rateFor_21 : decode cX11_rateFor 21 = .ok (.aload_n 0, 1) := by decide +kernel
theorem dX11_rateFor_22 : decode cX11_rateFor 22 = .ok (.getfield 57, 3) := by decide +kernel
theorem dX11_rateFor_25 : decode cX11_rateFor 25 = .ok (.getfield 87, 3) := by decide +kernel
theorem dX11_rateFor_28 : decode cX11_rateFor 28 = .ok (.getfield 90, 3) := by decide +kernel
theorem dX11_rateFor_31 : decode cX11_rateFor 31 = .ok (.ifCond .ne 6, 3) := by decide +kernel
theorem dX11_rateFor_34 : decode cX11_rateFor 34 = .ok (.bipush (-2), 2) := by decide +kernel
theorem dX11_rateFor_36 : decode cX11_rateFor 36 = .ok (.ireturn, 1) := by decide +kernel
theorem dX11_rateFor_37 : decode cX11_rateFor 37 = .ok (.aload_n 0, 1) := by decide +kernel
theorem dX11_rateFor_38 : decode cX11_rateFor 38 = .ok (.getfield 61, 3) := by decide +kernel
theorem dX11_rateFor_41 : decode cX11_rateFor 41 = .ok (.aload_n 0, 1) := by decide +kernel
theorem dX11_rateFor_42 : decode cX11_rateFor 42 = .ok (.getfield 57, 3) := by decide +kernel
theorem dX11_rateFor_45 : decode cX11_rateFor 45 = .ok (.invokevirtual 371, 3) := by decide +kernel
theorem dX11_rateFor_48 : decode cX11_rateFor 48 = .ok (.iconst 0, 1) := by decide +kernel
theorem dX11_rateFor_49 : decode cX11_rateFor 49 = .ok (.istore 4, 2) := by decide +kernel
theorem dX11_rateFor_51 : decode cX11_rateFor 51 = .ok (.iload 4, 2) := by decide +kernel
theorem dX11_rateFor_53 : decode cX11_rateFor 53 = .ok (.bipush 12, 2) := by decide +kernel
theorem dX11_rateFor_55 : decode cX11_rateFor 55 = .ok (.if_icmp .gt 49, 3) := by decide +kernel
theorem dX11_rateFor_58 : decode cX11_rateFor 58 = .ok (.aload_n 0, 1) := by decide +kernel
theorem dX11_rateFor_59 : decode cX11_rateFor 59 = .ok (.getfield 61, 3) := by decide +kernel
theorem dX11_rateFor_62 : decode cX11_rateFor 62 = .ok (.getfield 125, 3) := by decide +kernel
theorem dX11_rateFor_65 : decode cX11_rateFor 65 = .ok (.iload_n 1, 1) := by decide +kernel
theorem dX11_rateFor_66 : decode cX11_rateFor 66 = .ok (.iload_n 2, 1) := by decide +kernel
theorem dX11_rateFor_67 : decode cX11_rateFor 67 = .ok (.iload 4, 2) := by decide +kernel
theorem dX11_rateFor_69 : decode cX11_rateFor 69 = .ok (.invokevirtual 416, 3) := by decide +kernel
theorem dX11_rateFor_72 : decode cX11_rateFor 72 = .ok (.aload_n 0, 1) := by decide +kernel
theorem dX11_rateFor_73 : decode cX11_rateFor 73 = .ok (.getfield 43, 3) := by decide +kernel
theorem dX11_rateFor_76 : decode cX11_rateFor 76 = .ok (.aload_n 0, 1) := by decide +kernel
theorem dX11_rateFor_77 : decode cX11_rateFor 77 = .ok (.getfield 61, 3) := by decide +kernel
theorem dX11_rateFor_80 : decode cX11_rateFor 80 = .ok (.iconst 0, 1) := by decide +kernel
theorem dX11_rateFor_81 : decode cX11_rateFor 81 = .ok (.invokevirtual 206, 3) := by decide +kernel
theorem dX11_rateFor_84 : decode cX11_rateFor 84 = .ok (.aload_n 0, 1) := by decide +kernel
theorem dX11_rateFor_85 : decode cX11_rateFor 85 = .ok (.getfield 61, 3) := by decide +kernel
theorem dX11_rateFor_88 : decode cX11_rateFor 88 = .ok (.invokevirtual 391, 3) := by decide +kernel
theorem dX11_rateFor_91 : decode cX11_rateFor 91 = .ok (.iload_n 3, 1) := by decide +kernel
theorem dX11_rateFor_92 : decode cX11_rateFor 92 = .ok (.if_icmp .gt 6, 3) := by decide +kernel
theorem dX11_rateFor_95 : decode cX11_rateFor 95 = .ok (.iload 4, 2) := by decide +kernel
theorem dX11_rateFor_97 : decode cX11_rateFor 97 = .ok (.ireturn, 1) := by decide +kernel
theorem dX11_rateFor_98 : decode cX11_rateFor 98 = .ok (.iinc 4 1, 3) := by decide +kernel
theorem dX11_rateFor_101 : decode cX11_rateFor 101 = .ok (.goto (-50), 3) := by decide +kernel
theorem dX11_rateFor_104 : decode cX11_rateFor 104 = .ok (.bipush (-2), 2) := by decide +kernel
theorem dX11_rateFor_106 : decode cX11_rateFor 106 = .ok (.ireturn, 1) := by decide +kernel
theorem dX11_ifCut_0 : decode cX11_ifCut 0 = .ok (.iload_n 1, 1) := by decide +kernel
theorem dX11_ifCut_1 : decode cX11_ifCut 1 = .ok (.invokestatic 95, 3) := by decide +kernel
theorem dX11_ifCut_4 : decode cX11_ifCut 4 = .ok (.ifCond .eq 21, 3) := by decide +kernel
theorem dX11_ifCut_7 : decode cX11_ifCut 7 = .ok (.iload_n 1, 1) := by decide +kernel
theorem dX11_ifCut_8 : decode cX11_ifCut 8 = .ok (.aload_n 0, 1) := by decide +kernel
theorem dX11_ifCut_9 : decode cX11_ifCut 9 = .ok (.getfield 57, 3) := by decide +kernel
theorem dX11_ifCut_12 : decode cX11_ifCut 12 = .ok (.getfield 142, 3) := by decide +kernel
theorem dX11_ifCut_15 : decode cX11_ifCut 15 = .ok (.if_icmp .lt 10, 3) := by decide +kernel
theorem dX11_ifCut_18 : decode cX11_ifCut 18 = .ok (.iload_n 2, 1) := by decide +kernel
theorem dX11_ifCut_19 : decode cX11_ifCut 19 = .ok (.invokestatic 122, 3) := by decide +kernel
theorem dX11_ifCut_22 : decode cX11_ifCut 22 = .ok (.ifCond .ne 5, 3) := by decide +kernel
theorem dX11_ifCut_25 : decode cX11_ifCut 25 = .ok (.iconst (-1), 1) := by decide +kernel
theorem dX11_ifCut_26 : decode cX11_ifCut 26 = .ok (.ireturn, 1) := by decide +kernel
theorem dX11_ifCut_27 : decode cX11_ifCut 27 = .ok (.aload_n 0, 1) := by decide +kernel
theorem dX11_ifCut_28 : decode cX11_ifCut 28 = .ok (.getfield 57, 3) := by decide +kernel
theorem dX11_ifCut_31 : decode cX11_ifCut 31 = .ok (.getfield 214, 3) := by decide +kernel
theorem dX11_ifCut_34 : decode cX11_ifCut 34 = .ok (.ifCond .ne 6, 3) := by decide +kernel
theorem dX11_ifCut_37 : decode cX11_ifCut 37 = .ok (.bipush (-2), 2) := by decide +kernel
theorem dX11_ifCut_39 : decode cX11_ifCut 39 = .ok (.ireturn, 1) := by decide +kernel
theorem dX11_ifCut_40 : decode cX11_ifCut 40 = .ok (.aload_n 0, 1) := by decide +kernel
theorem dX11_ifCut_41 : decode cX11_ifCut 41 = .ok (.getfield 61, 3) := by decide +kernel
theorem dX11_ifCut_44 : decode cX11_ifCut 44 = .ok (.aload_n 0, 1) := by decide +kernel
theorem dX11_ifCut_45 : decode cX11_ifCut 45 = .ok (.getfield 57, 3) := by decide +kernel
theorem dX11_ifCut_48 : decode cX11_ifCut 48 = .ok (.invokevirtual 371, 3) := by decide +kernel
theorem dX11_ifCut_51 : decode cX11_ifCut 51 = .ok (.aload_n 0, 1) := by decide +kernel
theorem dX11_ifCut_52 : decode cX11_ifCut 52 = .ok (.getfield 61, 3) := by decide +kernel
theorem dX11_ifCut_55 : decode cX11_ifCut 55 = .ok (.iload_n 1, 1) := by decide +kernel
theorem dX11_ifCut_56 : decode cX11_ifCut 56 = .ok (.putfield 142, 3) := by decide +kernel
theorem dX11_ifCut_59 : decode cX11_ifCut 59 = .ok (.aload_n 0, 1) := by decide +kernel
theorem dX11_ifCut_60 : decode cX11_ifCut 60 = .ok (.getfield 61, 3) := by decide +kernel
theorem dX11_ifCut_63 : decode cX11_ifCut 63 = .ok (.getfield 125, 3) := by decide +kernel
theorem dX11_ifCut_66 : decode cX11_ifCut 66 = .ok (.iload_n 1, 1) := by decide +kernel
theorem dX11_ifCut_67 : decode cX11_ifCut 67 = .ok (.bipush 60, 2) := by decide +kernel
theorem dX11_ifCut_69 : decode cX11_ifCut 69 = .ok (.idiv, 1) := by decide +kernel
theorem dX11_ifCut_70 : decode cX11_ifCut 70 = .ok (.bipush 11, 2) := by decide +kernel
theorem dX11_ifCut_72 : decode cX11_ifCut 72 = .ok (.iload_n 2, 1) := by decide +kernel
theorem dX11_ifCut_73 : decode cX11_ifCut 73 = .ok (.invokevirtual 416, 3) := by decide +kernel
theorem dX11_ifCut_76 : decode cX11_ifCut 76 = .ok (.aload_n 0, 1) := by decide +kernel
theorem dX11_ifCut_77 : decode cX11_ifCut 77 = .ok (.getfield 43, 3) := by decide +kernel
theorem dX11_ifCut_80 : decode cX11_ifCut 80 = .ok (.aload_n 0, 1) := by decide +kernel
theorem dX11_ifCut_81 : decode cX11_ifCut 81 = .ok (.getfield 61, 3) := by decide +kernel
theorem dX11_ifCut_84 : decode cX11_ifCut 84 = .ok (.invokevirtual 218, 3) := by decide +kernel
theorem dX11_ifCut_87 : decode cX11_ifCut 87 = .ok (.pop, 1) := by decide +kernel
theorem dX11_ifCut_88 : decode cX11_ifCut 88 = .ok (.aload_n 0, 1) := by decide +kernel
theorem dX11_ifCut_89 : decode cX11_ifCut 89 = .ok (.getfield 61, 3) := by decide +kernel
theorem dX11_ifCut_92 : decode cX11_ifCut 92 = .ok (.invokevirtual 420, 3) := by decide +kernel
theorem dX11_ifCut_95 : decode cX11_ifCut 95 = .ok (.ireturn, 1) := by decide +kernel
theorem dX11_airborne_0 : decode cX11_airborne 0 = .ok (.iload_n 1, 1) := by decide +kernel
theorem dX11_airborne_1 : decode cX11_airborne 1 = .ok (.invokestatic 188, 3) := by decide +kernel
theorem dX11_airborne_4 : decode cX11_airborne 4 = .ok (.ifCond .eq 14, 3) := by decide +kernel
theorem dX11_airborne_7 : decode cX11_airborne 7 = .ok (.aload_n 0, 1) := by decide +kernel
theorem dX11_airborne_8 : decode cX11_airborne 8 = .ok (.getfield 57, 3) := by decide +kernel
theorem dX11_airborne_11 : decode cX11_airborne 11 = .ok (.iload_n 1, 1) := by decide +kernel
theorem dX11_airborne_12 : decode cX11_airborne 12 = .ok (.invokevirtual 408, 3) := by decide +kernel
theorem dX11_airborne_15 : decode cX11_airborne 15 = .ok (.goto 4, 3) := by decide +kernel
theorem dX11_airborne_18 : decode cX11_airborne 18 = .ok (.iconst (-1), 1) := by decide +kernel
theorem dX11_airborne_19 : decode cX11_airborne 19 = .ok (.ireturn, 1) := by decide +kernel
theorem dX11_next_0 : decode cX11_next 0 = .ok (.iload_n 1, 1) := by decide +kernel
theorem dX11_next_1 : decode cX11_next 1 = .ok (.invokestatic 188, 3) := by decide +kernel
theorem dX11_next_4 : decode cX11_next 4 = .ok (.ifCond .eq 14, 3) := by decide +kernel
theorem dX11_next_7 : decode cX11_next 7 = .ok (.aload_n 0, 1) := by decide +kernel
theorem dX11_next_8 : decode cX11_next 8 = .ok (.getfield 57, 3) := by decide +kernel
theorem dX11_next_11 : decode cX11_next 11 = .ok (.iload_n 1, 1) := by decide +kernel
theorem dX11_next_12 : decode cX11_next 12 = .ok (.invokevirtual 426, 3) := by decide +kernel
theorem dX11_next_15 : decode cX11_next 15 = .ok (.goto 4, 3) := by decide +kernel
theorem dX11_next_18 : decode cX11_next 18 = .ok (.iconst (-1), 1) := by decide +kernel
theorem dX11_next_19 : decode cX11_next 19 = .ok (.ireturn, 1) := by decide +kernel
theorem dX11_count_0 : decode cX11_count 0 = .ok (.iload_n 1, 1) := by decide +kernel
theorem dX11_count_1 : decode cX11_count 1 = .ok (.tableswitch 191 0 12 #[67, 78, 86, 102, 110, 118, 126, 137, 148, 156, 161, 172, 183], 67) := by decide +kernel
theorem dX11_count_68 : decode cX11_count 68 = .ok (.aload_n 0, 1) := by decide +kernel
theorem dX11_count_69 : decode cX11_count 69 = .ok (.getfield 57, 3) := by decide +kernel
theorem dX11_count_72 : decode cX11_count 72 = .ok (.getfield 87, 3) := by decide +kernel
theorem dX11_count_75 : decode cX11_count 75 = .ok (.getfield 90, 3) := by decide +kernel
theorem dX11_count_78 : decode cX11_count 78 = .ok (.ireturn, 1) := by decide +kernel
theorem dX11_count_79 : decode cX11_count 79 = .ok (.aload_n 0, 1) := by decide +kernel
theorem dX11_count_80 : decode cX11_count 80 = .ok (.getfield 57, 3) := by decide +kernel
theorem dX11_count_83 : decode cX11_count 83 = .ok (.getfield 142, 3) := by decide +kernel
theorem dX11_count_86 : decode cX11_count 86 = .ok (.ireturn, 1) := by decide +kernel
theorem dX11_count_87 : decode cX11_count 87 = .ok (.aload_n 0, 1) := by decide +kernel
theorem dX11_count_88 : decode cX11_count 88 = .ok (.getfield 57, 3) := by decide +kernel
theorem dX11_count_91 : decode cX11_count 91 = .ok (.getfield 214, 3) := by decide +kernel
theorem dX11_count_94 : decode cX11_count 94 = .ok (.ifCond .eq 7, 3) := by decide +kernel
theorem dX11_count_97 : decode cX11_count 97 = .ok (.iconst 1, 1) := by decide +kernel
theorem dX11_count_98 : decode cX11_count 98 = .ok (.goto 4, 3) := by decide +kernel
theorem dX11_count_101 : decode cX11_count 101 = .ok (.iconst 0, 1) := by decide +kernel
theorem dX11_count_102 : decode cX11_count 102 = .ok (.ireturn, 1) := by decide +kernel
theorem dX11_count_103 : decode cX11_count 103 = .ok (.aload_n 0, 1) := by decide +kernel
theorem dX11_count_104 : decode cX11_count 104 = .ok (.getfield 57, 3) := by decide +kernel
theorem dX11_count_107 : decode cX11_count 107 = .ok (.invokevirtual 388, 3) := by decide +kernel
theorem dX11_count_110 : decode cX11_count 110 = .ok (.ireturn, 1) := by decide +kernel
theorem dX11_count_111 : decode cX11_count 111 = .ok (.aload_n 0, 1) := by decide +kernel
theorem dX11_count_112 : decode cX11_count 112 = .ok (.getfield 57, 3) := by decide +kernel
theorem dX11_count_115 : decode cX11_count 115 = .ok (.invokevirtual 420, 3) := by decide +kernel
theorem dX11_count_118 : decode cX11_count 118 = .ok (.ireturn, 1) := by decide +kernel
theorem dX11_count_119 : decode cX11_count 119 = .ok (.aload_n 0, 1) := by decide +kernel
theorem dX11_count_120 : decode cX11_count 120 = .ok (.getfield 57, 3) := by decide +kernel
theorem dX11_count_123 : decode cX11_count 123 = .ok (.invokevirtual 429, 3) := by decide +kernel
theorem dX11_count_126 : decode cX11_count 126 = .ok (.ireturn, 1) := by decide +kernel
theorem dX11_count_127 : decode cX11_count 127 = .ok (.aload_n 0, 1) := by decide +kernel
theorem dX11_count_128 : decode cX11_count 128 = .ok (.getfield 57, 3) := by decide +kernel
theorem dX11_count_131 : decode cX11_count 131 = .ok (.getfield 194, 3) := by decide +kernel
theorem dX11_count_134 : decode cX11_count 134 = .ok (.getfield 248, 3) := by decide +kernel
theorem dX11_count_137 : decode cX11_count 137 = .ok (.ireturn, 1) := by decide +kernel
theorem dX11_count_138 : decode cX11_count 138 = .ok (.aload_n 0, 1) := by decide +kernel
theorem dX11_count_139 : decode cX11_count 139 = .ok (.getfield 57, 3) := by decide +kernel
theorem dX11_count_142 : decode cX11_count 142 = .ok (.getfield 255, 3) := by decide +kernel
theorem dX11_count_145 : decode cX11_count 145 = .ok (.invokevirtual 432, 3) := by decide +kernel
theorem dX11_count_148 : decode cX11_count 148 = .ok (.ireturn, 1) := by decide +kernel
theorem dX11_count_149 : decode cX11_count 149 = .ok (.aload_n 0, 1) := by decide +kernel
theorem dX11_count_150 : decode cX11_count 150 = .ok (.getfield 10, 3) := by decide +kernel
theorem dX11_count_153 : decode cX11_count 153 = .ok (.getfield 72, 3) := by decide +kernel
theorem dX11_count_156 : decode cX11_count 156 = .ok (.ireturn, 1) := by decide +kernel
theorem dX11_count_157 : decode cX11_count 157 = .ok (.aload_n 0, 1) := by decide +kernel
theorem dX11_count_158 : decode cX11_count 158 = .ok (.getfield 68, 3) := by decide +kernel
theorem dX11_count_161 : decode cX11_count 161 = .ok (.ireturn, 1) := by decide +kernel
theorem dX11_count_162 : decode cX11_count 162 = .ok (.aload_n 0, 1) := by decide +kernel
theorem dX11_count_163 : decode cX11_count 163 = .ok (.getfield 57, 3) := by decide +kernel
theorem dX11_count_166 : decode cX11_count 166 = .ok (.getfield 125, 3) := by decide +kernel
theorem dX11_count_169 : decode cX11_count 169 = .ok (.invokevirtual 435, 3) := by decide +kernel
theorem dX11_count_172 : decode cX11_count 172 = .ok (.ireturn, 1) := by decide +kernel
theorem dX11_count_173 : decode cX11_count 173 = .ok (.aload_n 0, 1) := by decide +kernel
theorem dX11_count_174 : decode cX11_count 174 = .ok (.getfield 57, 3) := by decide +kernel
theorem dX11_count_177 : decode cX11_count 177 = .ok (.getfield 349, 3) := by decide +kernel
theorem dX11_count_180 : decode cX11_count 180 = .ok (.getfield 438, 3) := by decide +kernel
theorem dX11_count_183 : decode cX11_count 183 = .ok (.ireturn, 1) := by decide +kernel
theorem dX11_count_184 : decode cX11_count 184 = .ok (.aload_n 0, 1) := by decide +kernel
theorem dX11_count_185 : decode cX11_count 185 = .ok (.getfield 57, 3) := by decide +kernel
theorem dX11_count_188 : decode cX11_count 188 = .ok (.invokevirtual 375, 3) := by decide +kernel
theorem dX11_count_191 : decode cX11_count 191 = .ok (.ireturn, 1) := by decide +kernel
theorem dX11_count_192 : decode cX11_count 192 = .ok (.iload_n 1, 1) := by decide +kernel
theorem dX11_count_193 : decode cX11_count 193 = .ok (.bipush 20, 2) := by decide +kernel
theorem dX11_count_195 : decode cX11_count 195 = .ok (.isub, 1) := by decide +kernel
theorem dX11_count_196 : decode cX11_count 196 = .ok (.invokestatic 119, 3) := by decide +kernel
theorem dX11_count_199 : decode cX11_count 199 = .ok (.ifCond .eq 20, 3) := by decide +kernel
theorem dX11_count_202 : decode cX11_count 202 = .ok (.aload_n 0, 1) := by decide +kernel
theorem dX11_count_203 : decode cX11_count 203 = .ok (.getfield 57, 3) := by decide +kernel
theorem dX11_count_206 : decode cX11_count 206 = .ok (.getfield 125, 3) := by decide +kernel
theorem dX11_count_209 : decode cX11_count 209 = .ok (.iload_n 1, 1) := by decide +kernel
theorem dX11_count_210 : decode cX11_count 210 = .ok (.bipush 20, 2) := by decide +kernel
theorem dX11_count_212 : decode cX11_count 212 = .ok (.isub, 1) := by decide +kernel
theorem dX11_count_213 : decode cX11_count 213 = .ok (.invokevirtual 129, 3) := by decide +kernel
theorem dX11_count_216 : decode cX11_count 216 = .ok (.goto 4, 3) := by decide +kernel
theorem dX11_count_219 : decode cX11_count 219 = .ok (.iconst (-1), 1) := by decide +kernel
theorem dX11_count_220 : decode cX11_count 220 = .ok (.ireturn, 1) := by decide +kernel
theorem dX11_keep_0 : decode cX11_keep 0 = .ok (.aload_n 0, 1) := by decide +kernel
theorem dX11_keep_1 : decode cX11_keep 1 = .ok (.getfield 68, 3) := by decide +kernel
theorem dX11_keep_4 : decode cX11_keep 4 = .ok (.ifCond .lt 12, 3) := by decide +kernel
theorem dX11_keep_7 : decode cX11_keep 7 = .ok (.aload_n 0, 1) := by decide +kernel
theorem dX11_keep_8 : decode cX11_keep 8 = .ok (.getfield 68, 3) := by decide +kernel
theorem dX11_keep_11 : decode cX11_keep 11 = .ok (.bipush 8, 2) := by decide +kernel
theorem dX11_keep_13 : decode cX11_keep 13 = .ok (.if_icmp .lt 5, 3) := by decide +kernel
theorem dX11_keep_16 : decode cX11_keep 16 = .ok (.iconst (-1), 1) := by decide +kernel
theorem dX11_keep_17 : decode cX11_keep 17 = .ok (.ireturn, 1) := by decide +kernel
theorem dX11_keep_18 : decode cX11_keep 18 = .ok (.aload_n 0, 1) := by decide +kernel
theorem dX11_keep_19 : decode cX11_keep 19 = .ok (.getfield 64, 3) := by decide +kernel
theorem dX11_keep_22 : decode cX11_keep 22 = .ok (.aload_n 0, 1) := by decide +kernel
theorem dX11_keep_23 : decode cX11_keep 23 = .ok (.getfield 68, 3) := by decide +kernel
theorem dX11_keep_26 : decode cX11_keep 26 = .ok (.aaload, 1) := by decide +kernel
theorem dX11_keep_27 : decode cX11_keep 27 = .ok (.astore_n 1, 1) := by decide +kernel
theorem dX11_keep_28 : decode cX11_keep 28 = .ok (.aload_n 1, 1) := by decide +kernel
theorem dX11_keep_29 : decode cX11_keep 29 = .ok (.ifnonnull 21, 3) := by decide +kernel
theorem dX11_keep_32 : decode cX11_keep 32 = .ok (.new 54, 3) := by decide +kernel
theorem dX11_keep_35 : decode cX11_keep 35 = .ok (.dup, 1) := by decide +kernel
theorem dX11_keep_36 : decode cX11_keep 36 = .ok (.invokespecial 56, 3) := by decide +kernel
theorem dX11_keep_39 : decode cX11_keep 39 = .ok (.astore_n 1, 1) := by decide +kernel
theorem dX11_keep_40 : decode cX11_keep 40 = .ok (.aload_n 0, 1) := by decide +kernel
theorem dX11_keep_41 : decode cX11_keep 41 = .ok (.getfield 64, 3) := by decide +kernel
theorem dX11_keep_44 : decode cX11_keep 44 = .ok (.aload_n 0, 1) := by decide +kernel
theorem dX11_keep_45 : decode cX11_keep 45 = .ok (.getfield 68, 3) := by decide +kernel
theorem dX11_keep_48 : decode cX11_keep 48 = .ok (.aload_n 1, 1) := by decide +kernel
theorem dX11_keep_49 : decode cX11_keep 49 = .ok (.aastore, 1) := by decide +kernel
theorem dX11_keep_50 : decode cX11_keep 50 = .ok (.aload_n 1, 1) := by decide +kernel
theorem dX11_keep_51 : decode cX11_keep 51 = .ok (.aload_n 0, 1) := by decide +kernel
theorem dX11_keep_52 : decode cX11_keep 52 = .ok (.getfield 57, 3) := by decide +kernel
theorem dX11_keep_55 : decode cX11_keep 55 = .ok (.invokevirtual 371, 3) := by decide +kernel
theorem dX11_keep_58 : decode cX11_keep 58 = .ok (.aload_n 0, 1) := by decide +kernel
theorem dX11_keep_59 : decode cX11_keep 59 = .ok (.dup, 1) := by decide +kernel
theorem dX11_keep_60 : decode cX11_keep 60 = .ok (.getfield 68, 3) := by decide +kernel
theorem dX11_keep_63 : decode cX11_keep 63 = .ok (.iconst 1, 1) := by decide +kernel
theorem dX11_keep_64 : decode cX11_keep 64 = .ok (.iadd, 1) := by decide +kernel
theorem dX11_keep_65 : decode cX11_keep 65 = .ok (.putfield 68, 3) := by decide +kernel
theorem dX11_keep_68 : decode cX11_keep 68 = .ok (.aload_n 0, 1) := by decide +kernel
theorem dX11_keep_69 : decode cX11_keep 69 = .ok (.getfield 68, 3) := by decide +kernel
theorem dX11_keep_72 : decode cX11_keep 72 = .ok (.ireturn, 1) := by decide +kernel
theorem dX11_undo_0 : decode cX11_undo 0 = .ok (.aload_n 0, 1) := by decide +kernel
theorem dX11_undo_1 : decode cX11_undo 1 = .ok (.getfield 68, 3) := by decide +kernel
theorem dX11_undo_4 : decode cX11_undo 4 = .ok (.iconst 1, 1) := by decide +kernel
theorem dX11_undo_5 : decode cX11_undo 5 = .ok (.isub, 1) := by decide +kernel
theorem dX11_undo_6 : decode cX11_undo 6 = .ok (.istore_n 1, 1) := by decide +kernel
theorem dX11_undo_7 : decode cX11_undo 7 = .ok (.iload_n 1, 1) := by decide +kernel
theorem dX11_undo_8 : decode cX11_undo 8 = .ok (.ifCond .lt 9, 3) := by decide +kernel
theorem dX11_undo_11 : decode cX11_undo 11 = .ok (.iload_n 1, 1) := by decide +kernel
theorem dX11_undo_12 : decode cX11_undo 12 = .ok (.bipush 8, 2) := by decide +kernel
theorem dX11_undo_14 : decode cX11_undo 14 = .ok (.if_icmp .lt 5, 3) := by decide +kernel
theorem dX11_undo_17 : decode cX11_undo 17 = .ok (.iconst (-1), 1) := by decide +kernel
theorem dX11_undo_18 : decode cX11_undo 18 = .ok (.ireturn, 1) := by decide +kernel
theorem dX11_undo_19 : decode cX11_undo 19 = .ok (.aload_n 0, 1) := by decide +kernel
theorem dX11_undo_20 : decode cX11_undo 20 = .ok (.getfield 64, 3) := by decide +kernel
theorem dX11_undo_23 : decode cX11_undo 23 = .ok (.iload_n 1, 1) := by decide +kernel
theorem dX11_undo_24 : decode cX11_undo 24 = .ok (.aaload, 1) := by decide +kernel
theorem dX11_undo_25 : decode cX11_undo 25 = .ok (.astore_n 2, 1) := by decide +kernel
theorem dX11_undo_26 : decode cX11_undo 26 = .ok (.aload_n 2, 1) := by decide +kernel
theorem dX11_undo_27 : decode cX11_undo 27 = .ok (.ifnonnull 5, 3) := by decide +kernel
theorem dX11_undo_30 : decode cX11_undo 30 = .ok (.iconst (-1), 1) := by decide +kernel
theorem dX11_undo_31 : decode cX11_undo 31 = .ok (.ireturn, 1) := by decide +kernel
theorem dX11_undo_32 : decode cX11_undo 32 = .ok (.aload_n 0, 1) := by decide +kernel
theorem dX11_undo_33 : decode cX11_undo 33 = .ok (.getfield 57, 3) := by decide +kernel
theorem dX11_undo_36 : decode cX11_undo 36 = .ok (.aload_n 2, 1) := by decide +kernel
theorem dX11_undo_37 : decode cX11_undo 37 = .ok (.invokevirtual 371, 3) := by decide +kernel
theorem dX11_undo_40 : decode cX11_undo 40 = .ok (.aload_n 0, 1) := by decide +kernel
theorem dX11_undo_41 : decode cX11_undo 41 = .ok (.iload_n 1, 1) := by decide +kernel
theorem dX11_undo_42 : decode cX11_undo 42 = .ok (.putfield 68, 3) := by decide +kernel
theorem dX11_undo_45 : decode cX11_undo 45 = .ok (.aload_n 0, 1) := by decide +kernel
theorem dX11_undo_46 : decode cX11_undo 46 = .ok (.getfield 68, 3) := by decide +kernel
theorem dX11_undo_49 : decode cX11_undo 49 = .ok (.ireturn, 1) := by decide +kernel
theorem dX11_tryCancel_0 : decode cX11_tryCancel 0 = .ok (.aload_n 0, 1) := by decide +kernel
theorem dX11_tryCancel_1 : decode cX11_tryCancel 1 = .ok (.getfield 61, 3) := by decide +kernel
theorem dX11_tryCancel_4 : decode cX11_tryCancel 4 = .ok (.aload_n 0, 1) := by decide +kernel
theorem dX11_tryCancel_5 : decode cX11_tryCancel 5 = .ok (.getfield 57, 3) := by decide +kernel
theorem dX11_tryCancel_8 : decode cX11_tryCancel 8 = .ok (.invokevirtual 371, 3) := by decide +kernel
theorem dX11_tryCancel_11 : decode cX11_tryCancel 11 = .ok (.aload_n 0, 1) := by decide +kernel
theorem dX11_tryCancel_12 : decode cX11_tryCancel 12 = .ok (.getfield 61, 3) := by decide +kernel
theorem dX11_tryCancel_15 : decode cX11_tryCancel 15 = .ok (.iload_n 1, 1) := by decide +kernel
theorem dX11_tryCancel_16 : decode cX11_tryCancel 16 = .ok (.invokevirtual 222, 3) := by decide +kernel
theorem dX11_tryCancel_19 : decode cX11_tryCancel 19 = .ok (.pop, 1) := by decide +kernel
theorem dX11_tryCancel_20 : decode cX11_tryCancel 20 = .ok (.aload_n 0, 1) := by decide +kernel
theorem dX11_tryCancel_21 : decode cX11_tryCancel 21 = .ok (.getfield 61, 3) := by decide +kernel
theorem dX11_tryCancel_24 : decode cX11_tryCancel 24 = .ok (.invokevirtual 245, 3) := by decide +kernel
theorem dX11_tryCancel_27 : decode cX11_tryCancel 27 = .ok (.pop, 1) := by decide +kernel
theorem dX11_tryCancel_28 : decode cX11_tryCancel 28 = .ok (.return_, 1) := by decide +kernel
theorem dX11_isLine_0 : decode cX11_isLine 0 = .ok (.iload_n 0, 1) := by decide +kernel
theorem dX11_isLine_1 : decode cX11_isLine 1 = .ok (.ifCond .lt 12, 3) := by decide +kernel
theorem dX11_isLine_4 : decode cX11_isLine 4 = .ok (.iload_n 0, 1) := by decide +kernel
theorem dX11_isLine_5 : decode cX11_isLine 5 = .ok (.iconst 5, 1) := by decide +kernel
theorem dX11_isLine_6 : decode cX11_isLine 6 = .ok (.if_icmp .ge 7, 3) := by decide +kernel
theorem dX11_isLine_9 : decode cX11_isLine 9 = .ok (.iconst 1, 1) := by decide +kernel
theorem dX11_isLine_10 : decode cX11_isLine 10 = .ok (.goto 4, 3) := by decide +kernel
theorem dX11_isLine_13 : decode cX11_isLine 13 = .ok (.iconst 0, 1) := by decide +kernel
theorem dX11_isLine_14 : decode cX11_isLine 14 = .ok (.ireturn, 1) := by decide +kernel
theorem dX11_isHour_0 : decode cX11_isHour 0 = .ok (.iload_n 0, 1) := by decide +kernel
theorem dX11_isHour_1 : decode cX11_isHour 1 = .ok (.ifCond .lt 13, 3) := by decide +kernel
theorem dX11_isHour_4 : decode cX11_isHour 4 = .ok (.iload_n 0, 1) := by decide +kernel
theorem dX11_isHour_5 : decode cX11_isHour 5 = .ok (.bipush 12, 2) := by decide +kernel
theorem dX11_isHour_7 : decode cX11_isHour 7 = .ok (.if_icmp .ge 7, 3) := by decide +kernel
theorem dX11_isHour_10 : decode cX11_isHour 10 = .ok (.iconst 1, 1) := by decide +kernel
theorem dX11_isHour_11 : decode cX11_isHour 11 = .ok (.goto 4, 3) := by decide +kernel
theorem dX11_isHour_14 : decode cX11_isHour 14 = .ok (.iconst 0, 1) := by decide +kernel
theorem dX11_isHour_15 : decode cX11_isHour 15 = .ok (.ireturn, 1) := by decide +kernel
theorem dX11_areHours_0 : decode cX11_areHours 0 = .ok (.iload_n 0, 1) := by decide +kernel
theorem dX11_areHours_1 : decode cX11_areHours 1 = .ok (.invokestatic 119, 3) := by decide +kernel
theorem dX11_areHours_4 : decode cX11_areHours 4 = .ok (.ifCond .eq 19, 3) := by decide +kernel
theorem dX11_areHours_7 : decode cX11_areHours 7 = .ok (.iload_n 1, 1) := by decide +kernel
theorem dX11_areHours_8 : decode cX11_areHours 8 = .ok (.invokestatic 119, 3) := by decide +kernel
theorem dX11_areHours_11 : decode cX11_areHours 11 = .ok (.ifCond .eq 12, 3) := by decide +kernel
theorem dX11_areHours_14 : decode cX11_areHours 14 = .ok (.iload_n 0, 1) := by decide +kernel
theorem dX11_areHours_15 : decode cX11_areHours 15 = .ok (.iload_n 1, 1) := by decide +kernel
theorem dX11_areHours_16 : decode cX11_areHours 16 = .ok (.if_icmp .gt 7, 3) := by decide +kernel
theorem dX11_areHours_19 : decode cX11_areHours 19 = .ok (.iconst 1, 1) := by decide +kernel
theorem dX11_areHours_20 : decode cX11_areHours 20 = .ok (.goto 4, 3) := by decide +kernel
theorem dX11_areHours_23 : decode cX11_areHours 23 = .ok (.iconst 0, 1) := by decide +kernel
theorem dX11_areHours_24 : decode cX11_areHours 24 = .ok (.ireturn, 1) := by decide +kernel
theorem dX11_isRate_0 : decode cX11_isRate 0 = .ok (.iload_n 0, 1) := by decide +kernel
theorem dX11_isRate_1 : decode cX11_isRate 1 = .ok (.ifCond .lt 13, 3) := by decide +kernel
theorem dX11_isRate_4 : decode cX11_isRate 4 = .ok (.iload_n 0, 1) := by decide +kernel
theorem dX11_isRate_5 : decode cX11_isRate 5 = .ok (.bipush 12, 2) := by decide +kernel
theorem dX11_isRate_7 : decode cX11_isRate 7 = .ok (.if_icmp .gt 7, 3) := by decide +kernel
theorem dX11_isRate_10 : decode cX11_isRate 10 = .ok (.iconst 1, 1) := by decide +kernel
theorem dX11_isRate_11 : decode cX11_isRate 11 = .ok (.goto 4, 3) := by decide +kernel
theorem dX11_isRate_14 : decode cX11_isRate 14 = .ok (.iconst 0, 1) := by decide +kernel
theorem dX11_isRate_15 : decode cX11_isRate 15 = .ok (.ireturn, 1) := by decide +kernel
theorem dX11_isDayMinute_0 : decode cX11_isDayMinute 0 = .ok (.iload_n 0, 1) := by decide +kernel
theorem dX11_isDayMinute_1 : decode cX11_isDayMinute 1 = .ok (.ifCond .lt 14, 3) := by decide +kernel
theorem dX11_isDayMinute_4 : decode cX11_isDayMinute 4 = .ok (.iload_n 0, 1) := by decide +kernel
theorem dX11_isDayMinute_5 : decode cX11_isDayMinute 5 = .ok (.sipush 720, 3) := by decide +kernel
theorem dX11_isDayMinute_8 : decode cX11_isDayMinute 8 = .ok (.if_icmp .ge 7, 3) := by decide +kernel
theorem dX11_isDayMinute_11 : decode cX11_isDayMinute 11 = .ok (.iconst 1, 1) := by decide +kernel
theorem dX11_isDayMinute_12 : decode cX11_isDayMinute 12 = .ok (.goto 4, 3) := by decide +kernel
theorem dX11_isDayMinute_15 : decode cX11_isDayMinute 15 = .ok (.iconst 0, 1) := by decide +kernel
theorem dX11_isDayMinute_16 : decode cX11_isDayMinute 16 = .ok (.ireturn, 1) := by decide +kernel
theorem dX11_isMinute_0 : decode cX11_isMinute 0 = .ok (.iload_n 0, 1) := by decide +kernel
theorem dX11_isMinute_1 : decode cX11_isMinute 1 = .ok (.ifCond .lt 14, 3) := by decide +kernel
theorem dX11_isMinute_4 : decode cX11_isMinute 4 = .ok (.iload_n 0, 1) := by decide +kernel
theorem dX11_isMinute_5 : decode cX11_isMinute 5 = .ok (.sipush 1200, 3) := by decide +kernel
theorem dX11_isMinute_8 : decode cX11_isMinute 8 = .ok (.if_icmp .ge 7, 3) := by decide +kernel
theorem dX11_isMinute_11 : decode cX11_isMinute 11 = .ok (.iconst 1, 1) := by decide +kernel
theorem dX11_isMinute_12 : decode cX11_isMinute 12 = .ok (.goto 4, 3) := by decide +kernel
theorem dX11_isMinute_15 : decode cX11_isMinute 15 = .ok (.iconst 0, 1) := by decide +kernel
theorem dX11_isMinute_16 : decode cX11_isMinute 16 = .ok (.ireturn, 1) := by decide +kernel
