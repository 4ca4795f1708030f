theorem dX0_init_0 : decode cX0_init 0 = .ok (.aload_n 0, 1) := by decide +kernel
theorem dX0_init_1 : decode cX0_init 1 = .ok (.invokespecial 3, 3) := by decide +kernel
theorem dX0_init_4 : decode cX0_init 4 = .ok (.aload_n 0, 1) := by decide +kernel
theorem dX0_init_5 : decode cX0_init 5 = .ok (.sipush 320, 3) := by decide +kernel
theorem dX0_init_8 : decode cX0_init 8 = .ok (.newarray .byte, 2) := by decide +kernel
theorem dX0_init_10 : decode cX0_init 10 = .ok (.putfield 11, 3) := by decide +kernel
theorem dX0_init_13 : decode cX0_init 13 = .ok (.return_, 1) := by decide +kernel
theorem dX0_append_0 : decode cX0_append 0 = .ok (.aload_n 0, 1) := by decide +kernel
theorem dX0_append_1 : decode cX0_append 1 = .ok (.getfield 15, 3) := by decide +kernel
theorem dX0_append_4 : decode cX0_append 4 = .ok (.ifCond .lt 34, 3) := by decide +kernel
theorem dX0_append_7 : decode cX0_append 7 = .ok (.aload_n 0, 1) := by decide +kernel
theorem dX0_append_8 : decode cX0_append 8 = .ok (.getfield 15, 3) := by decide +kernel
theorem dX0_append_11 : decode cX0_append 11 = .ok (.sipush 320, 3) := by decide +kernel
theorem dX0_append_14 : decode cX0_append 14 = .ok (.if_icmp .ge 24, 3) := by decide +kernel
theorem dX0_append_17 : decode cX0_append 17 = .ok (.aload_n 0, 1) := by decide +kernel
theorem dX0_append_18 : decode cX0_append 18 = .ok (.getfield 11, 3) := by decide +kernel
theorem dX0_append_21 : decode cX0_append 21 = .ok (.aload_n 0, 1) := by decide +kernel
theorem dX0_append_22 : decode cX0_append 22 = .ok (.getfield 15, 3) := by decide +kernel
theorem dX0_append_25 : decode cX0_append 25 = .ok (.iload_n 1, 1) := by decide +kernel
theorem dX0_append_26 : decode cX0_append 26 = .ok (.i2b, 1) := by decide +kernel
theorem dX0_append_27 : decode cX0_append 27 = .ok (.bastore, 1) := by decide +kernel
theorem dX0_append_28 : decode cX0_append 28 = .ok (.aload_n 0, 1) := by decide +kernel
theorem dX0_append_29 : decode cX0_append 29 = .ok (.dup, 1) := by decide +kernel
theorem dX0_append_30 : decode cX0_append 30 = .ok (.getfield 15, 3) := by decide +kernel
theorem dX0_append_33 : decode cX0_append 33 = .ok (.iconst 1, 1) := by decide +kernel
theorem dX0_append_34 : decode cX0_append 34 = .ok (.iadd, 1) := by decide +kernel
theorem dX0_append_35 : decode cX0_append 35 = .ok (.putfield 15, 3) := by decide +kernel
theorem dX0_append_38 : decode cX0_append 38 = .ok (.return_, 1) := by decide +kernel
theorem dX0_appendFour_0 : decode cX0_appendFour 0 = .ok (.aload_n 0, 1) := by decide +kernel
theorem dX0_appendFour_1 : decode cX0_appendFour 1 = .ok (.iload_n 1, 1) := by decide +kernel
theorem dX0_appendFour_2 : decode cX0_appendFour 2 = .ok (.bipush 24, 2) := by decide +kernel
theorem dX0_appendFour_4 : decode cX0_appendFour 4 = .ok (.ishr, 1) := by decide +kernel
theorem dX0_appendFour_5 : decode cX0_appendFour 5 = .ok (.invokevirtual 19, 3) := by decide +kernel
theorem dX0_appendFour_8 : decode cX0_appendFour 8 = .ok (.aload_n 0, 1) := by decide +kernel
theorem dX0_appendFour_9 : decode cX0_appendFour 9 = .ok (.iload_n 1, 1) := by decide +kernel
theorem dX0_appendFour_10 : decode cX0_appendFour 10 = .ok (.bipush 16, 2) := by decide +kernel
theorem dX0_appendFour_12 : decode cX0_appendFour 12 = .ok (.ishr, 1) := by decide +kernel
theorem dX0_appendFour_13 : decode cX0_appendFour 13 = .ok (.invokevirtual 19, 3) := by decide +kernel
theorem dX0_appendFour_16 : decode cX0_appendFour 16 = .ok (.aload_n 0, 1) := by decide +kernel
theorem dX0_appendFour_17 : decode cX0_appendFour 17 = .ok (.iload_n 1, 1) := by decide +kernel
theorem dX0_appendFour_18 : decode cX0_appendFour 18 = .ok (.bipush 8, 2) := by decide +kernel
theorem dX0_appendFour_20 : decode cX0_appendFour 20 = .ok (.ishr, 1) := by decide +kernel
theorem dX0_appendFour_21 : decode cX0_appendFour 21 = .ok (.invokevirtual 19, 3) := by decide +kernel
theorem dX0_appendFour_24 : decode cX0_appendFour 24 = .ok (.aload_n 0, 1) := by decide +kernel
theorem dX0_appendFour_25 : decode cX0_appendFour 25 = .ok (.iload_n 1, 1) := by decide +kernel
theorem dX0_appendFour_26 : decode cX0_appendFour 26 = .ok (.invokevirtual 19, 3) := by decide +kernel
theorem dX0_appendFour_29 : decode cX0_appendFour 29 = .ok (.return_, 1) := by decide +kernel
theorem dX0_appendNumber_0 : decode cX0_appendNumber 0 = .ok (.iload_n 1, 1) := by decide +kernel
theorem dX0_appendNumber_1 : decode cX0_appendNumber 1 = .ok (.bipush 100, 2) := by decide +kernel
theorem dX0_appendNumber_3 : decode cX0_appendNumber 3 = .ok (.if_icmp .lt 14, 3) := by decide +kernel
theorem dX0_appendNumber_6 : decode cX0_appendNumber 6 = .ok (.aload_n 0, 1) := by decide +kernel
theorem dX0_appendNumber_7 : decode cX0_appendNumber 7 = .ok (.bipush 48, 2) := by decide +kernel
theorem dX0_appendNumber_9 : decode cX0_appendNumber 9 = .ok (.iload_n 1, 1) := by decide +kernel
theorem dX0_appendNumber_10 : decode cX0_appendNumber 10 = .ok (.bipush 100, 2) := by decide +kernel
theorem dX0_appendNumber_12 : decode cX0_appendNumber 12 = .ok (.idiv, 1) := by decide +kernel
theorem dX0_appendNumber_13 : decode cX0_appendNumber 13 = .ok (.iadd, 1) := by decide +kernel
theorem dX0_appendNumber_14 : decode cX0_appendNumber 14 = .ok (.invokevirtual 19, 3) := by decide +kernel
theorem dX0_appendNumber_17 : decode cX0_appendNumber 17 = .ok (.iload_n 1, 1) := by decide +kernel
theorem dX0_appendNumber_18 : decode cX0_appendNumber 18 = .ok (.bipush 10, 2) := by decide +kernel
theorem dX0_appendNumber_20 : decode cX0_appendNumber 20 = .ok (.if_icmp .lt 17, 3) := by decide +kernel
theorem dX0_appendNumber_23 : decode cX0_appendNumber 23 = .ok (.aload_n 0, 1) := by decide +kernel
theorem dX0_appendNumber_24 : decode cX0_appendNumber 24 = .ok (.bipush 48, 2) := by decide +kernel
theorem dX0_appendNumber_26 : decode cX0_appendNumber 26 = .ok (.iload_n 1, 1) := by decide +kernel
theorem dX0_appendNumber_27 : decode cX0_appendNumber 27 = .ok (.bipush 10, 2) := by decide +kernel
theorem dX0_appendNumber_29 : decode cX0_appendNumber 29 = .ok (.idiv, 1) := by decide +kernel
theorem dX0_appendNumber_30 : decode cX0_appendNumber 30 = .ok (.bipush 10, 2) := by decide +kernel
theorem dX0_appendNumber_32 : decode cX0_appendNumber 32 = .ok (.irem, 1) := by decide +kernel
theorem dX0_appendNumber_33 : decode cX0_appendNumber 33 = .ok (.iadd, 1) := by decide +kernel
theorem dX0_appendNumber_34 : decode cX0_appendNumber 34 = .ok (.invokevirtual 19, 3) := by decide +kernel
theorem dX0_appendNumber_37 : decode cX0_appendNumber 37 = .ok (.aload_n 0, 1) := by decide +kernel
theorem dX0_appendNumber_38 : decode cX0_appendNumber 38 = .ok (.bipush 48, 2) := by decide +kernel
theorem dX0_appendNumber_40 : decode cX0_appendNumber 40 = .ok (.iload_n 1, 1) := by decide +kernel
theorem dX0_appendNumber_41 : decode cX0_appendNumber 41 = .ok (.bipush 10, 2) := by decide +kernel
theorem dX0_appendNumber_43 : decode cX0_appendNumber 43 = .ok (.irem, 1) := by decide +kernel
theorem dX0_appendNumber_44 : decode cX0_appendNumber 44 = .ok (.iadd, 1) := by decide +kernel
theorem dX0_appendNumber_45 : decode cX0_appendNumber 45 = .ok (.invokevirtual 19, 3) := by decide +kernel
theorem dX0_appendNumber_48 : decode cX0_appendNumber 48 = .ok (.return_, 1) := by decide +kernel
theorem dX0_byteAt_0 : decode cX0_byteAt 0 = .ok (.iload_n 1, 1) := by decide +kernel
theorem dX0_byteAt_1 : decode cX0_byteAt 1 = .ok (.ifCond .lt 31, 3) := by decide +kernel
theorem dX0_byteAt_4 : decode cX0_byteAt 4 = .ok (.iload_n 1, 1) := by decide +kernel
theorem dX0_byteAt_5 : decode cX0_byteAt 5 = .ok (.aload_n 0, 1) := by decide +kernel
theorem dX0_byteAt_6 : decode cX0_byteAt 6 = .ok (.getfield 15, 3) := by decide +kernel
theorem dX0_byteAt_9 : decode cX0_byteAt 9 = .ok (.if_icmp .ge 23, 3) := by decide +kernel
theorem dX0_byteAt_12 : decode cX0_byteAt 12 = .ok (.iload_n 1, 1) := by decide +kernel
theorem dX0_byteAt_13 : decode cX0_byteAt 13 = .ok (.sipush 320, 3) := by decide +kernel
theorem dX0_byteAt_16 : decode cX0_byteAt 16 = .ok (.if_icmp .ge 16, 3) := by decide +kernel
theorem dX0_byteAt_19 : decode cX0_byteAt 19 = .ok (.aload_n 0, 1) := by decide +kernel
theorem dX0_byteAt_20 : decode cX0_byteAt 20 = .ok (.getfield 11, 3) := by decide +kernel
theorem dX0_byteAt_23 : decode cX0_byteAt 23 = .ok (.iload_n 1, 1) := by decide +kernel
theorem dX0_byteAt_24 : decode cX0_byteAt 24 = .ok (.baload, 1) := by decide +kernel
theorem dX0_byteAt_25 : decode cX0_byteAt 25 = .ok (.sipush 255, 3) := by decide +kernel
theorem dX0_byteAt_28 : decode cX0_byteAt 28 = .ok (.iand, 1) := by decide +kernel
theorem dX0_byteAt_29 : decode cX0_byteAt 29 = .ok (.goto 4, 3) := by decide +kernel
theorem dX0_byteAt_32 : decode cX0_byteAt 32 = .ok (.iconst (-1), 1) := by decide +kernel
theorem dX0_byteAt_33 : decode cX0_byteAt 33 = .ok (.ireturn, 1) := by decide +kernel
theorem dX1_init_0 : decode cX1_init 0 = .ok (.aload_n 0, 1) := by decide +kernel
theorem dX1_init_1 : decode cX1_init 1 = .ok (.invokespecial 1, 3) := by decide +kernel
theorem dX1_init_4 : decode cX1_init 4 = .ok (.return_, 1) := by decide +kernel
theorem dX1_start_0 : decode cX1_start 0 = .ok (.aload_n 0, 1) := by decide +kernel
theorem dX1_start_1 : decode cX1_start 1 = .ok (.iload_n 1, 1) := by decide +kernel
theorem dX1_start_2 : decode cX1_start 2 = .ok (.ldc 7, 2) := by decide +kernel
theorem dX1_start_4 : decode cX1_start 4 = .ok (.iand, 1) := by decide +kernel
theorem dX1_start_5 : decode cX1_start 5 = .ok (.putfield 8, 3) := by decide +kernel
theorem dX1_start_8 : decode cX1_start 8 = .ok (.return_, 1) := by decide +kernel
theorem dX1_roll_0 : decode cX1_roll 0 = .ok (.aload_n 0, 1) := by decide +kernel
theorem dX1_roll_1 : decode cX1_roll 1 = .ok (.sipush 25173, 3) := by decide +kernel
theorem dX1_roll_4 : decode cX1_roll 4 = .ok (.aload_n 0, 1) := by decide +kernel
theorem dX1_roll_5 : decode cX1_roll 5 = .ok (.getfield 8, 3) := by decide +kernel
theorem dX1_roll_8 : decode cX1_roll 8 = .ok (.imul, 1) := by decide +kernel
theorem dX1_roll_9 : decode cX1_roll 9 = .ok (.sipush 13849, 3) := by decide +kernel
theorem dX1_roll_12 : decode cX1_roll 12 = .ok (.iadd, 1) := by decide +kernel
theorem dX1_roll_13 : decode cX1_roll 13 = .ok (.ldc 7, 2) := by decide +kernel
theorem dX1_roll_15 : decode cX1_roll 15 = .ok (.iand, 1) := by decide +kernel
theorem dX1_roll_16 : decode cX1_roll 16 = .ok (.putfield 8, 3) := by decide +kernel
theorem dX1_roll_19 : decode cX1_roll 19 = .ok (.iload_n 1, 1) := by decide +kernel
theorem dX1_roll_20 : decode cX1_roll 20 = .ok (.ifCond .le 14, 3) := by decide +kernel
theorem dX1_roll_23 : decode cX1_roll 23 = .ok (.aload_n 0, 1) := by decide +kernel
theorem dX1_roll_24 : decode cX1_roll 24 = .ok (.getfield 8, 3) := by decide +kernel
theorem dX1_roll_27 : decode cX1_roll 27 = .ok (.iconst 4, 1) := by decide +kernel
theorem dX1_roll_28 : decode cX1_roll 28 = .ok (.idiv, 1) := by decide +kernel
theorem dX1_roll_29 : decode cX1_roll 29 = .ok (.iload_n 1, 1) := by decide +kernel
theorem dX1_roll_30 : decode cX1_roll 30 = .ok (.irem, 1) := by decide +kernel
theorem dX1_roll_31 : decode cX1_roll 31 = .ok (.goto 4, 3) := by decide +kernel
theorem dX1_roll_34 : decode cX1_roll 34 = .ok (.iconst 0, 1) := by decide +kernel
theorem dX1_roll_35 : decode cX1_roll 35 = .ok (.ireturn, 1) := by decide +kernel
theorem dX2_init_0 : decode cX2_init 0 = .ok (.aload_n 0, 1) := by decide +kernel
theorem dX2_init_1 : decode cX2_init 1 = .ok (.invokespecial 3, 3) := by decide +kernel
theorem dX2_init_4 : decode cX2_init 4 = .ok (.aload_n 0, 1) := by decide +kernel
theorem dX2_init_5 : decode cX2_init 5 = .ok (.new 9, 3) := by decide +kernel
theorem dX2_init_8 : decode cX2_init 8 = .ok (.dup, 1) := by decide +kernel
theorem dX2_init_9 : decode cX2_init 9 = .ok (.invokespecial 11, 3) := by decide +kernel
theorem dX2_init_12 : decode cX2_init 12 = .ok (.putfield 12, 3) := by decide +kernel
theorem dX2_init_15 : decode cX2_init 15 = .ok (.aload_n 0, 1) := by decide +kernel
theorem dX2_init_16 : decode cX2_init 16 = .ok (.new 18, 3) := by decide +kernel
theorem dX2_init_19 : decode cX2_init 19 = .ok (.dup, 1) := by decide +kernel
theorem dX2_init_20 : decode cX2_init 20 = .ok (.invokespecial 20, 3) := by decide +kernel
theorem dX2_init_23 : decode cX2_init 23 = .ok (.putfield 21, 3) := by decide +kernel
theorem dX2_init_26 : decode cX2_init 26 = .ok (.aload_n 0, 1) := by decide +kernel
theorem dX2_init_27 : decode cX2_init 27 = .ok (.new 25, 3) := by decide +kernel
theorem dX2_init_30 : decode cX2_init 30 = .ok (.dup, 1) := by decide +kernel
theorem dX2_init_31 : decode cX2_init 31 = .ok (.invokespecial 27, 3) := by decide +kernel
theorem dX2_init_34 : decode cX2_init 34 = .ok (.putfield 28, 3) := by decide +kernel
theorem dX2_init_37 : decode cX2_init 37 = .ok (.aload_n 0, 1) := by decide +kernel
theorem dX2_init_38 : decode cX2_init 38 = .ok (.new 32, 3) := by decide +kernel
theorem dX2_init_41 : decode cX2_init 41 = .ok (.dup, 1) := by decide +kernel
theorem dX2_init_42 : decode cX2_init 42 = .ok (.invokespecial 34, 3) := by decide +kernel
theorem dX2_init_45 : decode cX2_init 45 = .ok (.putfield 35, 3) := by decide +kernel
theorem dX2_init_48 : decode cX2_init 48 = .ok (.aload_n 0, 1) := by decide +kernel
theorem dX2_init_49 : decode cX2_init 49 = .ok (.new 39, 3) := by decide +kernel
theorem dX2_init_52 : decode cX2_init 52 = .ok (.dup, 1) := by decide +kernel
theorem dX2_init_53 : decode cX2_init 53 = .ok (.invokespecial 41, 3) := by decide +kernel
theorem dX2_init_56 : decode cX2_init 56 = .ok (.putfield 42, 3) := by decide +kernel
theorem dX2_init_59 : decode cX2_init 59 = .ok (.aload_n 0, 1) := by decide +kernel
theorem dX2_init_60 : decode cX2_init 60 = .ok (.bipush 20, 2) := by decide +kernel
theorem dX2_init_62 : decode cX2_init 62 = .ok (.newarray .int, 2) := by decide +kernel
theorem dX2_init_64 : decode cX2_init 64 = .ok (.putfield 46, 3) := by decide +kernel
theorem dX2_init_67 : decode cX2_init 67 = .ok (.aload_n 0, 1) := by decide +kernel
theorem dX2_init_68 : decode cX2_init 68 = .ok (.bipush 20, 2) := by decide +kernel
theorem dX2_init_70 : decode cX2_init 70 = .ok (.newarray .int, 2) := by decide +kernel
theorem dX2_init_72 : decode cX2_init 72 = .ok (.putfield 50, 3) := by decide +kernel
theorem dX2_init_75 : decode cX2_init 75 = .ok (.aload_n 0, 1) := by decide +kernel
theorem dX2_init_76 : decode cX2_init 76 = .ok (.bipush 20, 2) := by decide +kernel
theorem dX2_init_78 : decode cX2_init 78 = .ok (.newarray .int, 2) := by decide +kernel
theorem dX2_init_80 : decode cX2_init 80 = .ok (.putfield 53, 3) := by decide +kernel
theorem dX2_init_83 : decode cX2_init 83 = .ok (.iconst 0, 1) := by decide +kernel
theorem dX2_init_84 : decode cX2_init 84 = .ok (.istore_n 1, 1) := by decide +kernel
theorem dX2_init_85 : decode cX2_init 85 = .ok (.iload_n 1, 1) := by decide +kernel
theorem dX2_init_86 : decode cX2_init 86 = .ok (.bipush 20, 2) := by decide +kernel
theorem dX2_init_88 : decode cX2_init 88 = .ok (.if_icmp .ge 16, 3) := by decide +kernel
theorem dX2_init_91 : decode cX2_init 91 = .ok (.aload_n 0, 1) := by decide +kernel
theorem dX2_init_92 : decode cX2_init 92 = .ok (.getfield 46, 3) := by decide +kernel
theorem dX2_init_95 : decode cX2_init 95 = .ok (.iload_n 1, 1) := by decide +kernel
theorem dX2_init_96 : decode cX2_init 96 = .ok (.iconst (-1), 1) := by decide +kernel
theorem dX2_init_97 : decode cX2_init 97 = .ok (.iastore, 1) := by decide +kernel
theorem dX2_init_98 : decode cX2_init 98 = .ok (.iinc 1 1, 3) := by decide +kernel
theorem dX2_init_101 : decode cX2_init 101 = .ok (.goto (-16), 3) := by decide +kernel
theorem dX2_init_104 : decode cX2_init 104 = .ok (.return_, 1) := by decide +kernel
theorem dX2_copyFrom_0 : decode cX2_copyFrom 0 = .ok (.aload_n 0, 1) := by decide +kernel
theorem dX2_copyFrom_1 : decode cX2_copyFrom 1 = .ok (.getfield 12, 3) := by decide +kernel
theorem dX2_copyFrom_4 : decode cX2_copyFrom 4 = .ok (.aload_n 1, 1) := by decide +kernel
theorem dX2_copyFrom_5 : decode cX2_copyFrom 5 = .ok (.getfield 12, 3) := by decide +kernel
theorem dX2_copyFrom_8 : decode cX2_copyFrom 8 = .ok (.invokevirtual 56, 3) := by decide +kernel
theorem dX2_copyFrom_11 : decode cX2_copyFrom 11 = .ok (.aload_n 0, 1) := by decide +kernel
theorem dX2_copyFrom_12 : decode cX2_copyFrom 12 = .ok (.getfield 21, 3) := by decide +kernel
theorem dX2_copyFrom_15 : decode cX2_copyFrom 15 = .ok (.aload_n 1, 1) := by decide +kernel
theorem dX2_copyFrom_16 : decode cX2_copyFrom 16 = .ok (.getfield 21, 3) := by decide +kernel
theorem dX2_copyFrom_19 : decode cX2_copyFrom 19 = .ok (.invokevirtual 60, 3) := by decide +kernel
theorem dX2_copyFrom_22 : decode cX2_copyFrom 22 = .ok (.aload_n 0, 1) := by decide +kernel
theorem dX2_copyFrom_23 : decode cX2_copyFrom 23 = .ok (.getfield 28, 3) := by decide +kernel
theorem dX2_copyFrom_26 : decode cX2_copyFrom 26 = .ok (.aload_n 1, 1) := by decide +kernel
theorem dX2_copyFrom_27 : decode cX2_copyFrom 27 = .ok (.getfield 28, 3) := by decide +kernel
theorem dX2_copyFrom_30 : decode cX2_copyFrom 30 = .ok (.invokevirtual 63, 3) := by decide +kernel
theorem dX2_copyFrom_33 : decode cX2_copyFrom 33 = .ok (.aload_n 0, 1) := by decide +kernel
theorem dX2_copyFrom_34 : decode cX2_copyFrom 34 = .ok (.getfield 35, 3) := by decide +kernel
theorem dX2_copyFrom_37 : decode cX2_copyFrom 37 = .ok (.aload_n 1, 1) := by decide +kernel
theorem dX2_copyFrom_38 : decode cX2_copyFrom 38 = .ok (.getfield 35, 3) := by decide +kernel
theorem dX2_copyFrom_41 : decode cX2_copyFrom 41 = .ok (.invokevirtual 66, 3) := by decide +kernel
theorem dX2_copyFrom_44 : decode cX2_copyFrom 44 = .ok (.aload_n 0, 1) := by decide +kernel
theorem dX2_copyFrom_45 : decode cX2_copyFrom 45 = .ok (.getfield 42, 3) := by decide +kernel
theorem dX2_copyFrom_48 : decode cX2_copyFrom 48 = .ok (.aload_n 1, 1) := by decide +kernel
theorem dX2_copyFrom_49 : decode cX2_copyFrom 49 = .ok (.getfield 42, 3) := by decide +kernel
theorem dX2_copyFrom_52 : decode cX2_copyFrom 52 = .ok (.invokevirtual 69, 3) := by decide +kernel
theorem dX2_copyFrom_55 : decode cX2_copyFrom 55 = .ok (.aload_n 1, 1) := by decide +kernel
theorem dX2_copyFrom_56 : decode cX2_copyFrom 56 = .ok (.getfield 46, 3) := by decide +kernel
theorem dX2_copyFrom_59 : decode cX2_copyFrom 59 = .ok (.iconst 0, 1) := by decide +kernel
theorem dX2_copyFrom_60 : decode cX2_copyFrom 60 = .ok (.aload_n 0, 1) := by decide +kernel
theorem dX2_copyFrom_61 : decode cX2_copyFrom 61 = .ok (.getfield 46, 3) := by decide +kernel
theorem dX2_copyFrom_64 : decode cX2_copyFrom 64 = .ok (.iconst 0, 1) := by decide +kernel
theorem dX2_copyFrom_65 : decode cX2_copyFrom 65 = .ok (.bipush 20, 2) := by decide +kernel
theorem dX2_copyFrom_67 : decode cX2_copyFrom 67 = .ok (.invokestatic 72, 3) := by decide +kernel
theorem dX2_copyFrom_70 : decode cX2_copyFrom 70 = .ok (.aload_n 1, 1) := by decide +kernel
theorem dX2_copyFrom_71 : decode cX2_copyFrom 71 = .ok (.getfield 50, 3) := by decide +kernel
theorem dX2_copyFrom_74 : decode cX2_copyFrom 74 = .ok (.iconst 0, 1) := by decide +kernel
theorem dX2_copyFrom_75 : decode cX2_copyFrom 75 = .ok (.aload_n 0, 1) := by decide +kernel
theorem dX2_copyFrom_76 : decode cX2_copyFrom 76 = .ok (.getfield 50, 3) := by decide +kernel
theorem dX2_copyFrom_79 : decode cX2_copyFrom 79 = .ok (.iconst 0, 1) := by decide +kernel
theorem dX2_copyFrom_80 : decode cX2_copyFrom 80 = .ok (.bipush 20, 2) := by decide +kernel
theorem dX2_copyFrom_82 : decode cX2_copyFrom 82 = .ok (.invokestatic 72, 3) := by decide +kernel
theorem dX2_copyFrom_85 : decode cX2_copyFrom 85 = .ok (.aload_n 1, 1) := by decide +kernel
theorem dX2_copyFrom_86 : decode cX2_copyFrom 86 = .ok (.getfield 53, 3) := by decide +kernel
theorem dX2_copyFrom_89 : decode cX2_copyFrom 89 = .ok (.iconst 0, 1) := by decide +kernel
theorem dX2_copyFrom_90 : decode cX2_copyFrom 90 = .ok (.aload_n 0, 1) := by decide +kernel
theorem dX2_copyFrom_91 : decode cX2_copyFrom 91 = .ok (.getfield 53, 3) := by decide +kernel
theorem dX2_copyFrom_94 : decode cX2_copyFrom 94 = .ok (.iconst 0, 1) := by decide +kernel
theorem dX2_copyFrom_95 : decode cX2_copyFrom 95 = .ok (.bipush 20, 2) := by decide +kernel
theorem dX2_copyFrom_97 : decode cX2_copyFrom 97 = .ok (.invokestatic 72, 3) := by decide +kernel
theorem dX2_copyFrom_100 : decode cX2_copyFrom 100 = .ok (.aload_n 0, 1) := by decide +kernel
theorem dX2_copyFrom_101 : decode cX2_copyFrom 101 = .ok (.aload_n 1, 1) := by decide +kernel
theorem dX2_copyFrom_102 : decode cX2_copyFrom 102 = .ok (.getfield 78, 3) := by decide +kernel
theorem dX2_copyFrom_105 : decode cX2_copyFrom 105 = .ok (.putfield 78, 3) := by decide +kernel
theorem dX2_copyFrom_108 : decode cX2_copyFrom 108 = .ok (.aload_n 0, 1) := by decide +kernel
theorem dX2_copyFrom_109 : decode cX2_copyFrom 109 = .ok (.aload_n 1, 1) := by decide +kernel
theorem dX2_copyFrom_110 : decode cX2_copyFrom 110 = .ok (.getfield 82, 3) := by decide +kernel
theorem dX2_copyFrom_113 : decode cX2_copyFrom 113 = .ok (.putfield 82, 3) := by decide +kernel
theorem dX2_copyFrom_116 : decode cX2_copyFrom 116 = .ok (.aload_n 0, 1) := by decide +kernel
theorem dX2_copyFrom_117 : decode cX2_copyFrom 117 = .ok (.aload_n 1, 1) := by decide +kernel
theorem dX2_copyFrom_118 : decode cX2_copyFrom 118 = .ok (.getfield 85, 3) := by decide +kernel
theorem dX2_copyFrom_121 : decode cX2_copyFrom 121 = .ok (.putfield 85, 3) := by decide +kernel
theorem dX2_copyFrom_124 : decode cX2_copyFrom 124 = .ok (.return_, 1) := by decide +kernel
theorem dX2_takeRoster_0 : decode cX2_takeRoster 0 = .ok (.aload_n 0, 1) := by decide +kernel
theorem dX2_takeRoster_1 : decode cX2_takeRoster 1 = .ok (.getfield 12, 3) := by decide +kernel
theorem dX2_takeRoster_4 : decode cX2_takeRoster 4 = .ok (.aload_n 1, 1) := by decide +kernel
theorem dX2_takeRoster_5 : decode cX2_takeRoster 5 = .ok (.invokevirtual 56, 3) := by decide +kernel
theorem dX2_takeRoster_8 : decode cX2_takeRoster 8 = .ok (.aload_n 0, 1) := by decide +kernel
theorem dX2_takeRoster_9 : decode cX2_takeRoster 9 = .ok (.invokevirtual 89, 3) := by decide +kernel
theorem dX2_takeRoster_12 : decode cX2_takeRoster 12 = .ok (.aload_n 0, 1) := by decide +kernel
theorem dX2_takeRoster_13 : decode cX2_takeRoster 13 = .ok (.iconst 0, 1) := by decide +kernel
theorem dX2_takeRoster_14 : decode cX2_takeRoster 14 = .ok (.putfield 85, 3) := by decide +kernel
theorem dX2_takeRoster_17 : decode cX2_takeRoster 17 = .ok (.aload_n 0, 1) := by decide +kernel
theorem dX2_takeRoster_18 : decode cX2_takeRoster 18 = .ok (.getfield 42, 3) := by decide +kernel
theorem dX2_takeRoster_21 : decode cX2_takeRoster 21 = .ok (.iconst 0, 1) := by decide +kernel
theorem dX2_takeRoster_22 : decode cX2_takeRoster 22 = .ok (.putfield 92, 3) := by decide +kernel
theorem dX2_takeRoster_25 : decode cX2_takeRoster 25 = .ok (.return_, 1) := by decide +kernel
theorem dX2_clearPlan_0 : decode cX2_clearPlan 0 = .ok (.iconst 0, 1) := by decide +kernel
theorem dX2_clearPlan_1 : decode cX2_clearPlan 1 = .ok (.istore_n 1, 1) := by decide +kernel
theorem dX2_clearPlan_2 : decode cX2_clearPlan 2 = .ok (.iload_n 1, 1) := by decide +kernel
theorem dX2_clearPlan_3 : decode cX2_clearPlan 3 = .ok (.bipush 20, 2) := by decide +kernel
theorem dX2_clearPlan_5 : decode cX2_clearPlan 5 = .ok (.if_icmp .ge 14, 3) := by decide +kernel
theorem dX2_clearPlan_8 : decode cX2_clearPlan 8 = .ok (.aload_n 0, 1) := by decide +kernel
theorem dX2_clearPlan_9 : decode cX2_clearPlan 9 = .ok (.iload_n 1, 1) := by decide +kernel
theorem dX2_clearPlan_10 : decode cX2_clearPlan 10 = .ok (.invokevirtual 95, 3) := by decide +kernel
theorem dX2_clearPlan_13 : decode cX2_clearPlan 13 = .ok (.iinc 1 1, 3) := by decide +kernel
theorem dX2_clearPlan_16 : decode cX2_clearPlan 16 = .ok (.goto (-14), 3) := by decide +kernel
theorem dX2_clearPlan_19 : decode cX2_clearPlan 19 = .ok (.aload_n 0, 1) := by decide +kernel
theorem dX2_clearPlan_20 : decode cX2_clearPlan 20 = .ok (.iconst 0, 1) := by decide +kernel
theorem dX2_clearPlan_21 : decode cX2_clearPlan 21 = .ok (.putfield 78, 3) := by decide +kernel
theorem dX2_clearPlan_24 : decode cX2_clearPlan 24 = .ok (.aload_n 0, 1) := by decide +kernel
theorem dX2_clearPlan_25 : decode cX2_clearPlan 25 = .ok (.invokevirtual 99, 3) := by decide +kernel
theorem dX2_clearPlan_28 : decode cX2_clearPlan 28 = .ok (.return_, 1) := by decide +kernel
theorem dX2_clearMarket_0 : decode cX2_clearMarket 0 = .ok (.aload_n 0, 1) := by decide +kernel
theorem dX2_clearMarket_1 : decode cX2_clearMarket 1 = .ok (.getfield 28, 3) := by decide +kernel
theorem dX2_clearMarket_4 : decode cX2_clearMarket 4 = .ok (.iconst 0, 1) := by decide +kernel
theorem dX2_clearMarket_5 : decode cX2_clearMarket 5 = .ok (.putfield 102, 3) := by decide +kernel
theorem dX2_clearMarket_8 : decode cX2_clearMarket 8 = .ok (.aload_n 0, 1) := by decide +kernel
theorem dX2_clearMarket_9 : decode cX2_clearMarket 9 = .ok (.getfield 35, 3) := by decide +kernel
theorem dX2_clearMarket_12 : decode cX2_clearMarket 12 = .ok (.invokevirtual 103, 3) := by decide +kernel
theorem dX2_clearMarket_15 : decode cX2_clearMarket 15 = .ok (.return_, 1) := by decide +kernel
theorem dX2_clearFlight_0 : decode cX2_clearFlight 0 = .ok (.aload_n 0, 1) := by decide +kernel
theorem dX2_clearFlight_1 : decode cX2_clearFlight 1 = .ok (.getfield 46, 3) := by decide +kernel
theorem dX2_clearFlight_4 : decode cX2_clearFlight 4 = .ok (.iload_n 1, 1) := by decide +kernel
theorem dX2_clearFlight_5 : decode cX2_clearFlight 5 = .ok (.iconst (-1), 1) := by decide +kernel
theorem dX2_clearFlight_6 : decode cX2_clearFlight 6 = .ok (.iastore, 1) := by decide +kernel
theorem dX2_clearFlight_7 : decode cX2_clearFlight 7 = .ok (.aload_n 0, 1) := by decide +kernel
theorem dX2_clearFlight_8 : decode cX2_clearFlight 8 = .ok (.getfield 50, 3) := by decide +kernel
theorem dX2_clearFlight_11 : decode cX2_clearFlight 11 = .ok (.iload_n 1, 1) := by decide +kernel
theorem dX2_clearFlight_12 : decode cX2_clearFlight 12 = .ok (.iconst 0, 1) := by decide +kernel
theorem dX2_clearFlight_13 : decode cX2_clearFlight 13 = .ok (.iastore, 1) := by decide +kernel
theorem dX2_clearFlight_14 : decode cX2_clearFlight 14 = .ok (.aload_n 0, 1) := by decide +kernel
theorem dX2_clearFlight_15 : decode cX2_clearFlight 15 = .ok (.getfield 53, 3) := by decide +kernel
theorem dX2_clearFlight_18 : decode cX2_clearFlight 18 = .ok (.iload_n 1, 1) := by decide +kernel
theorem dX2_clearFlight_19 : decode cX2_clearFlight 19 = .ok (.iconst 0, 1) := by decide +kernel
theorem dX2_clearFlight_20 : decode cX2_clearFlight 20 = .ok (.iastore, 1) := by decide +kernel
theorem dX2_clearFlight_21 : decode cX2_clearFlight 21 = .ok (.return_, 1) := by decide +kernel
theorem dX2_isFlight_0 : decode cX2_isFlight 0 = .ok (.iload_n 1, 1) := by decide +kernel
theorem dX2_isFlight_1 : decode cX2_isFlight 1 = .ok (.ifCond .lt 24, 3) := by decide +kernel
theorem dX2_isFlight_4 : decode cX2_isFlight 4 = .ok (.iload_n 1, 1) := by decide +kernel
theorem dX2_isFlight_5 : decode cX2_isFlight 5 = .ok (.aload_n 0, 1) := by decide +kernel
theorem dX2_isFlight_6 : decode cX2_isFlight 6 = .ok (.getfield 12, 3) := by decide +kernel
theorem dX2_isFlight_9 : decode cX2_isFlight 9 = .ok (.getfield 106, 3) := by decide +kernel
theorem dX2_isFlight_12 : decode cX2_isFlight 12 = .ok (.if_icmp .ge 13, 3) := by decide +kernel
theorem dX2_isFlight_15 : decode cX2_isFlight 15 = .ok (.iload_n 1, 1) := by decide +kernel
theorem dX2_isFlight_16 : decode cX2_isFlight 16 = .ok (.bipush 20, 2) := by decide +kernel
theorem dX2_isFlight_18 : decode cX2_isFlight 18 = .ok (.if_icmp .ge 7, 3) := by decide +kernel
theorem dX2_isFlight_21 : decode cX2_isFlight 21 = .ok (.iconst 1, 1) := by decide +kernel
theorem dX2_isFlight_22 : decode cX2_isFlight 22 = .ok (.goto 4, 3) := by decide +kernel
theorem dX2_isFlight_25 : decode cX2_isFlight 25 = .ok (.iconst 0, 1) := by decide +kernel
theorem dX2_isFlight_26 : decode cX2_isFlight 26 = .ok (.ireturn, 1) := by decide +kernel
theorem dX2_isOf_0 : decode cX2_isOf 0 = .ok (.aload_n 0, 1) := by decide +kernel
theorem dX2_isOf_1 : decode cX2_isOf 1 = .ok (.iload_n 1, 1) := by decide +kernel
theorem dX2_isOf_2 : decode cX2_isOf 2 = .ok (.invokevirtual 107, 3) := by decide +kernel
theorem dX2_isOf_5 : decode cX2_isOf 5 = .ok (.ifCond .eq 20, 3) := by decide +kernel
theorem dX2_isOf_8 : decode cX2_isOf 8 = .ok (.aload_n 0, 1) := by decide +kernel
theorem dX2_isOf_9 : decode cX2_isOf 9 = .ok (.getfield 12, 3) := by decide +kernel
theorem dX2_isOf_12 : decode cX2_isOf 12 = .ok (.getfield 111, 3) := by decide +kernel
theorem dX2_isOf_15 : decode cX2_isOf 15 = .ok (.iload_n 1, 1) := by decide +kernel
theorem dX2_isOf_16 : decode cX2_isOf 16 = .ok (.iaload, 1) := by decide +kernel
theorem dX2_isOf_17 : decode cX2_isOf 17 = .ok (.iload_n 2, 1) := by decide +kernel
theorem dX2_isOf_18 : decode cX2_isOf 18 = .ok (.if_icmp .ne 7, 3) := by decide +kernel
theorem dX2_isOf_21 : decode cX2_isOf 21 = .ok (.iconst 1, 1) := by decide +kernel
theorem dX2_isOf_22 : decode cX2_isOf 22 = .ok (.goto 4, 3) := by decide +kernel
theorem dX2_isOf_25 : decode cX2_isOf 25 = .ok (.iconst 0, 1) := by decide +kernel
theorem dX2_isOf_26 : decode cX2_isOf 26 = .ok (.ireturn, 1) := by decide +kernel
theorem dX2_off_0 : decode cX2_off 0 = .ok (.aload_n 0, 1) := by decide +kernel
theorem dX2_off_1 : decode cX2_off 1 = .ok (.getfield 12, 3) := by decide +kernel
theorem dX2_off_4 : decode cX2_off 4 = .ok (.getfield 114, 3) := by decide +kernel
theorem dX2_off_7 : decode cX2_off 7 = .ok (.iload_n 1, 1) := by decide +kernel
theorem dX2_off_8 : decode cX2_off 8 = .ok (.iaload, 1) := by decide +kernel
theorem dX2_off_9 : decode cX2_off 9 = .ok (.aload_n 0, 1) := by decide +kernel
theorem dX2_off_10 : decode cX2_off 10 = .ok (.getfield 12, 3) := by decide +kernel
theorem dX2_off_13 : decode cX2_off 13 = .ok (.getfield 117, 3) := by decide +kernel
theorem dX2_off_16 : decode cX2_off 16 = .ok (.iload_n 1, 1) := by decide +kernel
theorem dX2_off_17 : decode cX2_off 17 = .ok (.iaload, 1) := by decide +kernel
theorem dX2_off_18 : decode cX2_off 18 = .ok (.isub, 1) := by decide +kernel
theorem dX2_off_19 : decode cX2_off 19 = .ok (.ireturn, 1) := by decide +kernel
theorem dX2_goesOff_0 : decode cX2_goesOff 0 = .ok (.aload_n 0, 1) := by decide +kernel
theorem dX2_goesOff_1 : decode cX2_goesOff 1 = .ok (.getfield 12, 3) := by decide +kernel
theorem dX2_goesOff_4 : decode cX2_goesOff 4 = .ok (.getfield 114, 3) := by decide +kernel
theorem dX2_goesOff_7 : decode cX2_goesOff 7 = .ok (.iload_n 1, 1) := by decide +kernel
theorem dX2_goesOff_8 : decode cX2_goesOff 8 = .ok (.iaload, 1) := by decide +kernel
theorem dX2_goesOff_9 : decode cX2_goesOff 9 = .ok (.aload_n 0, 1) := by decide +kernel
theorem dX2_goesOff_10 : decode cX2_goesOff 10 = .ok (.getfield 12, 3) := by decide +kernel
theorem dX2_goesOff_13 : decode cX2_goesOff 13 = .ok (.getfield 117, 3) := by decide +kernel
theorem dX2_goesOff_16 : decode cX2_goesOff 16 = .ok (.iload_n 1, 1) := by decide +kernel
theorem dX2_goesOff_17 : decode cX2_goesOff 17 = .ok (.iaload, 1) := by decide +kernel
theorem dX2_goesOff_18 : decode cX2_goesOff 18 = .ok (.isub, 1) := by decide +kernel
theorem dX2_goesOff_19 : decode cX2_goesOff 19 = .ok (.aload_n 0, 1) := by decide +kernel
theorem dX2_goesOff_20 : decode cX2_goesOff 20 = .ok (.getfield 50, 3) := by decide +kernel
theorem dX2_goesOff_23 : decode cX2_goesOff 23 = .ok (.iload_n 1, 1) := by decide +kernel
theorem dX2_goesOff_24 : decode cX2_goesOff 24 = .ok (.iaload, 1) := by decide +kernel
theorem dX2_goesOff_25 : decode cX2_goesOff 25 = .ok (.iadd, 1) := by decide +kernel
theorem dX2_goesOff_26 : decode cX2_goesOff 26 = .ok (.ireturn, 1) := by decide +kernel
theorem dX2_earliest_0 : decode cX2_earliest 0 = .ok (.aload_n 0, 1) := by decide +kernel
theorem dX2_earliest_1 : decode cX2_earliest 1 = .ok (.getfield 12, 3) := by decide +kernel
theorem dX2_earliest_4 : decode cX2_earliest 4 = .ok (.getfield 114, 3) := by decide +kernel
theorem dX2_earliest_7 : decode cX2_earliest 7 = .ok (.iload_n 1, 1) := by decide +kernel
theorem dX2_earliest_8 : decode cX2_earliest 8 = .ok (.iaload, 1) := by decide +kernel
theorem dX2_earliest_9 : decode cX2_earliest 9 = .ok (.aload_n 0, 1) := by decide +kernel
theorem dX2_earliest_10 : decode cX2_earliest 10 = .ok (.getfield 82, 3) := by decide +kernel
theorem dX2_earliest_13 : decode cX2_earliest 13 = .ok (.aload_n 0, 1) := by decide +kernel
theorem dX2_earliest_14 : decode cX2_earliest 14 = .ok (.getfield 12, 3) := by decide +kernel
theorem dX2_earliest_17 : decode cX2_earliest 17 = .ok (.getfield 117, 3) := by decide +kernel
theorem dX2_earliest_20 : decode cX2_earliest 20 = .ok (.iload_n 1, 1) := by decide +kernel
theorem dX2_earliest_21 : decode cX2_earliest 21 = .ok (.iaload, 1) := by decide +kernel
theorem dX2_earliest_22 : decode cX2_earliest 22 = .ok (.iadd, 1) := by decide +kernel
theorem dX2_earliest_23 : decode cX2_earliest 23 = .ok (.invokestatic 120, 3) := by decide +kernel
theorem dX2_earliest_26 : decode cX2_earliest 26 = .ok (.ireturn, 1) := by decide +kernel
theorem dX2_isSeated_0 : decode cX2_isSeated 0 = .ok (.iload_n 1, 1) := by decide +kernel
theorem dX2_isSeated_1 : decode cX2_isSeated 1 = .ok (.ifCond .lt 23, 3) := by decide +kernel
theorem dX2_isSeated_4 : decode cX2_isSeated 4 = .ok (.iload_n 1, 1) := by decide +kernel
theorem dX2_isSeated_5 : decode cX2_isSeated 5 = .ok (.bipush 20, 2) := by decide +kernel
theorem dX2_isSeated_7 : decode cX2_isSeated 7 = .ok (.if_icmp .ge 17, 3) := by decide +kernel
theorem dX2_isSeated_10 : decode cX2_isSeated 10 = .ok (.aload_n 0, 1) := by decide +kernel
theorem dX2_isSeated_11 : decode cX2_isSeated 11 = .ok (.getfield 46, 3) := by decide +kernel
theorem dX2_isSeated_14 : decode cX2_isSeated 14 = .ok (.iload_n 1, 1) := by decide +kernel
theorem dX2_isSeated_15 : decode cX2_isSeated 15 = .ok (.iaload, 1) := by decide +kernel
theorem dX2_isSeated_16 : decode cX2_isSeated 16 = .ok (.iconst (-1), 1) := by decide +kernel
theorem dX2_isSeated_17 : decode cX2_isSeated 17 = .ok (.if_icmp .eq 7, 3) := by decide +kernel
theorem dX2_isSeated_20 : decode cX2_isSeated 20 = .ok (.iconst 1, 1) := by decide +kernel
theorem dX2_isSeated_21 : decode cX2_isSeated 21 = .ok (.goto 4, 3) := by decide +kernel
theorem dX2_isSeated_24 : decode cX2_isSeated 24 = .ok (.iconst 0, 1) := by decide +kernel
theorem dX2_isSeated_25 : decode cX2_isSeated 25 = .ok (.ireturn, 1) := by decide +kernel
theorem dX2_isCancelled_0 : decode cX2_isCancelled 0 = .ok (.aload_n 0, 1) := by decide +kernel
theorem dX2_isCancelled_1 : decode cX2_isCancelled 1 = .ok (.iload_n 1, 1) := by decide +kernel
theorem dX2_isCancelled_2 : decode cX2_isCancelled 2 = .ok (.invokevirtual 107, 3) := by decide +kernel
theorem dX2_isCancelled_5 : decode cX2_isCancelled 5 = .ok (.ifCond .eq 18, 3) := by decide +kernel
theorem dX2_isCancelled_8 : decode cX2_isCancelled 8 = .ok (.aload_n 0, 1) := by decide +kernel
theorem dX2_isCancelled_9 : decode cX2_isCancelled 9 = .ok (.getfield 78, 3) := by decide +kernel
theorem dX2_isCancelled_12 : decode cX2_isCancelled 12 = .ok (.iconst 1, 1) := by decide +kernel
theorem dX2_isCancelled_13 : decode cX2_isCancelled 13 = .ok (.iload_n 1, 1) := by decide +kernel
theorem dX2_isCancelled_14 : decode cX2_isCancelled 14 = .ok (.ishl, 1) := by decide +kernel
theorem dX2_isCancelled_15 : decode cX2_isCancelled 15 = .ok (.iand, 1) := by decide +kernel
theorem dX2_isCancelled_16 : decode cX2_isCancelled 16 = .ok (.ifCond .eq 7, 3) := by decide +kernel
theorem dX2_isCancelled_19 : decode cX2_isCancelled 19 = .ok (.iconst 1, 1) := by decide +kernel
theorem dX2_isCancelled_20 : decode cX2_isCancelled 20 = .ok (.goto 4, 3) := by decide +kernel
theorem dX2_isCancelled_23 : decode cX2_isCancelled 23 = .ok (.iconst 0, 1) := by decide +kernel
theorem dX2_isCancelled_24 : decode cX2_isCancelled 24 = .ok (.ireturn, 1) := by decide +kernel
theorem dX2_isAloft_0 : decode cX2_isAloft 0 = .ok (.aload_n 0, 1) := by decide +kernel
theorem dX2_isAloft_1 : decode cX2_isAloft 1 = .ok (.iload_n 1, 1) := by decide +kernel
theorem dX2_isAloft_2 : decode cX2_isAloft 2 = .ok (.invokevirtual 126, 3) := by decide +kernel
theorem dX2_isAloft_5 : decode cX2_isAloft 5 = .ok (.ifCond .eq 19, 3) := by decide +kernel
theorem dX2_isAloft_8 : decode cX2_isAloft 8 = .ok (.aload_n 0, 1) := by decide +kernel
theorem dX2_isAloft_9 : decode cX2_isAloft 9 = .ok (.iload_n 1, 1) := by decide +kernel
theorem dX2_isAloft_10 : decode cX2_isAloft 10 = .ok (.invokevirtual 129, 3) := by decide +kernel
theorem dX2_isAloft_13 : decode cX2_isAloft 13 = .ok (.aload_n 0, 1) := by decide +kernel
theorem dX2_isAloft_14 : decode cX2_isAloft 14 = .ok (.getfield 82, 3) := by decide +kernel
theorem dX2_isAloft_17 : decode cX2_isAloft 17 = .ok (.if_icmp .gt 7, 3) := by decide +kernel
theorem dX2_isAloft_20 : decode cX2_isAloft 20 = .ok (.iconst 1, 1) := by decide +kernel
theorem dX2_isAloft_21 : decode cX2_isAloft 21 = .ok (.goto 4, 3) := by decide +kernel
theorem dX2_isAloft_24 : decode cX2_isAloft 24 = .ok (.iconst 0, 1) := by decide +kernel
theorem dX2_isAloft_25 : decode cX2_isAloft 25 = .ok (.ireturn, 1) := by decide +kernel
theorem dX2_isGrounded_0 : decode cX2_isGrounded 0 = .ok (.aload_n 0, 1) := by decide +kernel
theorem dX2_isGrounded_1 : decode cX2_isGrounded 1 = .ok (.iload_n 1, 1) := by decide +kernel
theorem dX2_isGrounded_2 : decode cX2_isGrounded 2 = .ok (.invokevirtual 126, 3) := by decide +kernel
theorem dX2_isGrounded_5 : decode cX2_isGrounded 5 = .ok (.ifCond .eq 19, 3) := by decide +kernel
theorem dX2_isGrounded_8 : decode cX2_isGrounded 8 = .ok (.aload_n 0, 1) := by decide +kernel
theorem dX2_isGrounded_9 : decode cX2_isGrounded 9 = .ok (.iload_n 1, 1) := by decide +kernel
theorem dX2_isGrounded_10 : decode cX2_isGrounded 10 = .ok (.invokevirtual 129, 3) := by decide +kernel
theorem dX2_isGrounded_13 : decode cX2_isGrounded 13 = .ok (.aload_n 0, 1) := by decide +kernel
theorem dX2_isGrounded_14 : decode cX2_isGrounded 14 = .ok (.getfield 82, 3) := by decide +kernel
theorem dX2_isGrounded_17 : decode cX2_isGrounded 17 = .ok (.if_icmp .le 7, 3) := by decide +kernel
theorem dX2_isGrounded_20 : decode cX2_isGrounded 20 = .ok (.iconst 1, 1) := by decide +kernel
theorem dX2_isGrounded_21 : decode cX2_isGrounded 21 = .ok (.goto 4, 3) := by decide +kernel
theorem dX2_isGrounded_24 : decode cX2_isGrounded 24 = .ok (.iconst 0, 1) := by decide +kernel
theorem dX2_isGrounded_25 : decode cX2_isGrounded 25 = .ok (.ireturn, 1) := by decide +kernel
theorem dX2_waitOf_0 : decode cX2_waitOf 0 = .ok (.aload_n 0, 1) := by decide +kernel
theorem dX2_waitOf_1 : decode cX2_waitOf 1 = .ok (.getfield 50, 3) := by decide +kernel
theorem dX2_waitOf_4 : decode cX2_waitOf 4 = .ok (.iload_n 1, 1) := by decide +kernel
theorem dX2_waitOf_5 : decode cX2_waitOf 5 = .ok (.iaload, 1) := by decide +kernel
theorem dX2_waitOf_6 : decode cX2_waitOf 6 = .ok (.aload_n 0, 1) := by decide +kernel
theorem dX2_waitOf_7 : decode cX2_waitOf 7 = .ok (.getfield 53, 3) := by decide +kernel
theorem dX2_waitOf_10 : decode cX2_waitOf 10 = .ok (.iload_n 1, 1) := by decide +kernel
theorem dX2_waitOf_11 : decode cX2_waitOf 11 = .ok (.iaload, 1) := by decide +kernel
theorem dX2_waitOf_12 : decode cX2_waitOf 12 = .ok (.iadd, 1) := by decide +kernel
theorem dX2_waitOf_13 : decode cX2_waitOf 13 = .ok (.ireturn, 1) := by decide +kernel
theorem dX2_costOf_0 : decode cX2_costOf 0 = .ok (.aload_n 0, 1) := by decide +kernel
theorem dX2_costOf_1 : decode cX2_costOf 1 = .ok (.getfield 12, 3) := by decide +kernel
theorem dX2_costOf_4 : decode cX2_costOf 4 = .ok (.getfield 133, 3) := by decide +kernel
theorem dX2_costOf_7 : decode cX2_costOf 7 = .ok (.iload_n 1, 1) := by decide +kernel
theorem dX2_costOf_8 : decode cX2_costOf 8 = .ok (.iaload, 1) := by decide +kernel
theorem dX2_costOf_9 : decode cX2_costOf 9 = .ok (.aload_n 0, 1) := by decide +kernel
theorem dX2_costOf_10 : decode cX2_costOf 10 = .ok (.getfield 50, 3) := by decide +kernel
theorem dX2_costOf_13 : decode cX2_costOf 13 = .ok (.iload_n 1, 1) := by decide +kernel
theorem dX2_costOf_14 : decode cX2_costOf 14 = .ok (.iaload, 1) := by decide +kernel
theorem dX2_costOf_15 : decode cX2_costOf 15 = .ok (.iconst 3, 1) := by decide +kernel
theorem dX2_costOf_16 : decode cX2_costOf 16 = .ok (.aload_n 0, 1) := by decide +kernel
theorem dX2_costOf_17 : decode cX2_costOf 17 = .ok (.getfield 53, 3) := by decide +kernel
theorem dX2_costOf_20 : decode cX2_costOf 20 = .ok (.iload_n 1, 1) := by decide +kernel
theorem dX2_costOf_21 : decode cX2_costOf 21 = .ok (.iaload, 1) := by decide +kernel
theorem dX2_costOf_22 : decode cX2_costOf 22 = .ok (.imul, 1) := by decide +kernel
theorem dX2_costOf_23 : decode cX2_costOf 23 = .ok (.iadd, 1) := by decide +kernel
theorem dX2_costOf_24 : decode cX2_costOf 24 = .ok (.imul, 1) := by decide +kernel
theorem dX2_costOf_25 : decode cX2_costOf 25 = .ok (.ireturn, 1) := by decide +kernel
theorem dX2_costOnGround_0 : decode cX2_costOnGround 0 = .ok (.aload_n 0, 1) := by decide +kernel
theorem dX2_costOnGround_1 : decode cX2_costOnGround 1 = .ok (.getfield 12, 3) := by decide +kernel
theorem dX2_costOnGround_4 : decode cX2_costOnGround 4 = .ok (.getfield 133, 3) := by decide +kernel
theorem dX2_costOnGround_7 : decode cX2_costOnGround 7 = .ok (.iload_n 1, 1) := by decide +kernel
theorem dX2_costOnGround_8 : decode cX2_costOnGround 8 = .ok (.iaload, 1) := by decide +kernel
theorem dX2_costOnGround_9 : decode cX2_costOnGround 9 = .ok (.iload_n 2, 1) := by decide +kernel
theorem dX2_costOnGround_10 : decode cX2_costOnGround 10 = .ok (.aload_n 0, 1) := by decide +kernel
theorem dX2_costOnGround_11 : decode cX2_costOnGround 11 = .ok (.getfield 12, 3) := by decide +kernel
theorem dX2_costOnGround_14 : decode cX2_costOnGround 14 = .ok (.getfield 114, 3) := by decide +kernel
theorem dX2_costOnGround_17 : decode cX2_costOnGround 17 = .ok (.iload_n 1, 1) := by decide +kernel
theorem dX2_costOnGround_18 : decode cX2_costOnGround 18 = .ok (.iaload, 1) := by decide +kernel
theorem dX2_costOnGround_19 : decode cX2_costOnGround 19 = .ok (.isub, 1) := by decide +kernel
theorem dX2_costOnGround_20 : decode cX2_costOnGround 20 = .ok (.imul, 1) := by decide +kernel
theorem dX2_costOnGround_21 : decode cX2_costOnGround 21 = .ok (.ireturn, 1) := by decide +kernel
theorem dX2_seatOnGround_0 : decode cX2_seatOnGround 0 = .ok (.aload_n 0, 1) := by decide +kernel
theorem dX2_seatOnGround_1 : decode cX2_seatOnGround 1 = .ok (.iload_n 1, 1) := by decide +kernel
theorem dX2_seatOnGround_2 : decode cX2_seatOnGround 2 = .ok (.invokevirtual 107, 3) := by decide +kernel
theorem dX2_seatOnGround_5 : decode cX2_seatOnGround 5 = .ok (.ifCond .eq 39, 3) := by decide +kernel
theorem dX2_seatOnGround_8 : decode cX2_seatOnGround 8 = .ok (.iload_n 2, 1) := by decide +kernel
theorem dX2_seatOnGround_9 : decode cX2_seatOnGround 9 = .ok (.iconst (-1), 1) := by decide +kernel
theorem dX2_seatOnGround_10 : decode cX2_seatOnGround 10 = .ok (.if_icmp .eq 34, 3) := by decide +kernel
theorem dX2_seatOnGround_13 : decode cX2_seatOnGround 13 = .ok (.aload_n 0, 1) := by decide +kernel
theorem dX2_seatOnGround_14 : decode cX2_seatOnGround 14 = .ok (.getfield 46, 3) := by decide +kernel
theorem dX2_seatOnGround_17 : decode cX2_seatOnGround 17 = .ok (.iload_n 1, 1) := by decide +kernel
theorem dX2_seatOnGround_18 : decode cX2_seatOnGround 18 = .ok (.iload_n 2, 1) := by decide +kernel
theorem dX2_seatOnGround_19 : decode cX2_seatOnGround 19 = .ok (.iastore, 1) := by decide +kernel
theorem dX2_seatOnGround_20 : decode cX2_seatOnGround 20 = .ok (.aload_n 0, 1) := by decide +kernel
theorem dX2_seatOnGround_21 : decode cX2_seatOnGround 21 = .ok (.getfield 50, 3) := by decide +kernel
theorem dX2_seatOnGround_24 : decode cX2_seatOnGround 24 = .ok (.iload_n 1, 1) := by decide +kernel
theorem dX2_seatOnGround_25 : decode cX2_seatOnGround 25 = .ok (.iload_n 2, 1) := by decide +kernel
theorem dX2_seatOnGround_26 : decode cX2_seatOnGround 26 = .ok (.aload_n 0, 1) := by decide +kernel
theorem dX2_seatOnGround_27 : decode cX2_seatOnGround 27 = .ok (.getfield 12, 3) := by decide +kernel
theorem dX2_seatOnGround_30 : decode cX2_seatOnGround 30 = .ok (.getfield 114, 3) := by decide +kernel
theorem dX2_seatOnGround_33 : decode cX2_seatOnGround 33 = .ok (.iload_n 1, 1) := by decide +kernel
theorem dX2_seatOnGround_34 : decode cX2_seatOnGround 34 = .ok (.iaload, 1) := by decide +kernel
theorem dX2_seatOnGround_35 : decode cX2_seatOnGround 35 = .ok (.isub, 1) := by decide +kernel
theorem dX2_seatOnGround_36 : decode cX2_seatOnGround 36 = .ok (.iastore, 1) := by decide +kernel
theorem dX2_seatOnGround_37 : decode cX2_seatOnGround 37 = .ok (.aload_n 0, 1) := by decide +kernel
theorem dX2_seatOnGround_38 : decode cX2_seatOnGround 38 = .ok (.getfield 53, 3) := by decide +kernel
theorem dX2_seatOnGround_41 : decode cX2_seatOnGround 41 = .ok (.iload_n 1, 1) := by decide +kernel
theorem dX2_seatOnGround_42 : decode cX2_seatOnGround 42 = .ok (.iconst 0, 1) := by decide +kernel
theorem dX2_seatOnGround_43 : decode cX2_seatOnGround 43 = .ok (.iastore, 1) := by decide +kernel
theorem dX2_seatOnGround_44 : decode cX2_seatOnGround 44 = .ok (.return_, 1) := by decide +kernel
theorem dX2_seatInAir_0 : decode cX2_seatInAir 0 = .ok (.aload_n 0, 1) := by decide +kernel
theorem dX2_seatInAir_1 : decode cX2_seatInAir 1 = .ok (.iload_n 1, 1) := by decide +kernel
theorem dX2_seatInAir_2 : decode cX2_seatInAir 2 = .ok (.invokevirtual 107, 3) := by decide +kernel
theorem dX2_seatInAir_5 : decode cX2_seatInAir 5 = .ok (.ifCond .eq 39, 3) := by decide +kernel
theorem dX2_seatInAir_8 : decode cX2_seatInAir 8 = .ok (.iload_n 2, 1) := by decide +kernel
theorem dX2_seatInAir_9 : decode cX2_seatInAir 9 = .ok (.iconst (-1), 1) := by decide +kernel
theorem dX2_seatInAir_10 : decode cX2_seatInAir 10 = .ok (.if_icmp .eq 34, 3) := by decide +kernel
theorem dX2_seatInAir_13 : decode cX2_seatInAir 13 = .ok (.aload_n 0, 1) := by decide +kernel
theorem dX2_seatInAir_14 : decode cX2_seatInAir 14 = .ok (.getfield 46, 3) := by decide +kernel
theorem dX2_seatInAir_17 : decode cX2_seatInAir 17 = .ok (.iload_n 1, 1) := by decide +kernel
theorem dX2_seatInAir_18 : decode cX2_seatInAir 18 = .ok (.iload_n 2, 1) := by decide +kernel
theorem dX2_seatInAir_19 : decode cX2_seatInAir 19 = .ok (.iastore, 1) := by decide +kernel
theorem dX2_seatInAir_20 : decode cX2_seatInAir 20 = .ok (.aload_n 0, 1) := by decide +kernel
theorem dX2_seatInAir_21 : decode cX2_seatInAir 21 = .ok (.getfield 53, 3) := by decide +kernel
theorem dX2_seatInAir_24 : decode cX2_seatInAir 24 = .ok (.iload_n 1, 1) := by decide +kernel
theorem dX2_seatInAir_25 : decode cX2_seatInAir 25 = .ok (.iload_n 2, 1) := by decide +kernel
theorem dX2_seatInAir_26 : decode cX2_seatInAir 26 = .ok (.aload_n 0, 1) := by decide +kernel
theorem dX2_seatInAir_27 : decode cX2_seatInAir 27 = .ok (.getfield 12, 3) := by decide +kernel
theorem dX2_seatInAir_30 : decode cX2_seatInAir 30 = .ok (.getfield 114, 3) := by decide +kernel
theorem dX2_seatInAir_33 : decode cX2_seatInAir 33 = .ok (.iload_n 1, 1) := by decide +kernel
theorem dX2_seatInAir_34 : decode cX2_seatInAir 34 = .ok (.iaload, 1) := by decide +kernel
theorem dX2_seatInAir_35 : decode cX2_seatInAir 35 = .ok (.isub, 1) := by decide +kernel
theorem dX2_seatInAir_36 : decode cX2_seatInAir 36 = .ok (.aload_n 0, 1) := by decide +kernel
theorem dX2_seatInAir_37 : decode cX2_seatInAir 37 = .ok (.getfield 50, 3) := by decide +kernel
theorem dX2_seatInAir_40 : decode cX2_seatInAir 40 = .ok (.iload_n 1, 1) := by decide +kernel
theorem dX2_seatInAir_41 : decode cX2_seatInAir 41 = .ok (.iaload, 1) := by decide +kernel
theorem dX2_seatInAir_42 : decode cX2_seatInAir 42 = .ok (.isub, 1) := by decide +kernel
theorem dX2_seatInAir_43 : decode cX2_seatInAir 43 = .ok (.iastore, 1) := by decide +kernel
theorem dX2_seatInAir_44 : decode cX2_seatInAir 44 = .ok (.return_, 1) := by decide +kernel
theorem dX2_flightIn_0 : decode cX2_flightIn 0 = .ok (.iconst 0, 1) := by decide +kernel
theorem dX2_flightIn_1 : decode cX2_flightIn 1 = .ok (.istore_n 2, 1) := by decide +kernel
theorem dX2_flightIn_2 : decode cX2_flightIn 2 = .ok (.iload_n 2, 1) := by decide +kernel
theorem dX2_flightIn_3 : decode cX2_flightIn 3 = .ok (.bipush 20, 2) := by decide +kernel
theorem dX2_flightIn_5 : decode cX2_flightIn 5 = .ok (.if_icmp .ge 29, 3) := by decide +kernel
theorem dX2_flightIn_8 : decode cX2_flightIn 8 = .ok (.aload_n 0, 1) := by decide +kernel
theorem dX2_flightIn_9 : decode cX2_flightIn 9 = .ok (.iload_n 2, 1) := by decide +kernel
theorem dX2_flightIn_10 : decode cX2_flightIn 10 = .ok (.invokevirtual 126, 3) := by decide +kernel
theorem dX2_flightIn_13 : decode cX2_flightIn 13 = .ok (.ifCond .eq 15, 3) := by decide +kernel
theorem dX2_flightIn_16 : decode cX2_flightIn 16 = .ok (.aload_n 0, 1) := by decide +kernel
theorem dX2_flightIn_17 : decode cX2_flightIn 17 = .ok (.getfield 46, 3) := by decide +kernel
theorem dX2_flightIn_20 : decode cX2_flightIn 20 = .ok (.iload_n 2, 1) := by decide +kernel
theorem dX2_flightIn_21 : decode cX2_flightIn 21 = .ok (.iaload, 1) := by decide +kernel
theorem dX2_flightIn_22 : decode cX2_flightIn 22 = .ok (.iload_n 1, 1) := by decide +kernel
theorem dX2_flightIn_23 : decode cX2_flightIn 23 = .ok (.if_icmp .ne 5, 3) := by decide +kernel
theorem dX2_flightIn_26 : decode cX2_flightIn 26 = .ok (.iload_n 2, 1) := by decide +kernel
theorem dX2_flightIn_27 : decode cX2_flightIn 27 = .ok (.ireturn, 1) := by decide +kernel
theorem dX2_flightIn_28 : decode cX2_flightIn 28 = .ok (.iinc 2 1, 3) := by decide +kernel
theorem dX2_flightIn_31 : decode cX2_flightIn 31 = .ok (.goto (-29), 3) := by decide +kernel
theorem dX2_flightIn_34 : decode cX2_flightIn 34 = .ok (.iconst (-1), 1) := by decide +kernel
theorem dX2_flightIn_35 : decode cX2_flightIn 35 = .ok (.ireturn, 1) := by decide +kernel
theorem dX2_callOff_0 : decode cX2_callOff 0 = .ok (.aload_n 0, 1) := by decide +kernel
theorem dX2_callOff_1 : decode cX2_callOff 1 = .ok (.iload_n 1, 1) := by decide +kernel
theorem dX2_callOff_2 : decode cX2_callOff 2 = .ok (.invokevirtual 136, 3) := by decide +kernel
theorem dX2_callOff_5 : decode cX2_callOff 5 = .ok (.ifCond .ne 6, 3) := by decide +kernel
theorem dX2_callOff_8 : decode cX2_callOff 8 = .ok (.bipush (-2), 2) := by decide +kernel
theorem dX2_callOff_10 : decode cX2_callOff 10 = .ok (.ireturn, 1) := by decide +kernel
theorem dX2_callOff_11 : decode cX2_callOff 11 = .ok (.aload_n 0, 1) := by decide +kernel
theorem dX2_callOff_12 : decode cX2_callOff 12 = .ok (.getfield 46, 3) := by decide +kernel
theorem dX2_callOff_15 : decode cX2_callOff 15 = .ok (.iload_n 1, 1) := by decide +kernel
theorem dX2_callOff_16 : decode cX2_callOff 16 = .ok (.iaload, 1) := by decide +kernel
theorem dX2_callOff_17 : decode cX2_callOff 17 = .ok (.istore_n 2, 1) := by decide +kernel
theorem dX2_callOff_18 : decode cX2_callOff 18 = .ok (.aload_n 0, 1) := by decide +kernel
theorem dX2_callOff_19 : decode cX2_callOff 19 = .ok (.getfield 28, 3) := by decide +kernel
theorem dX2_callOff_22 : decode cX2_callOff 22 = .ok (.iload_n 2, 1) := by decide +kernel
theorem dX2_callOff_23 : decode cX2_callOff 23 = .ok (.aload_n 0, 1) := by decide +kernel
theorem dX2_callOff_24 : decode cX2_callOff 24 = .ok (.getfield 12, 3) := by decide +kernel
theorem dX2_callOff_27 : decode cX2_callOff 27 = .ok (.getfield 111, 3) := by decide +kernel
theorem dX2_callOff_30 : decode cX2_callOff 30 = .ok (.iload_n 1, 1) := by decide +kernel
theorem dX2_callOff_31 : decode cX2_callOff 31 = .ok (.iaload, 1) := by decide +kernel
theorem dX2_callOff_32 : decode cX2_callOff 32 = .ok (.invokevirtual 139, 3) := by decide +kernel
theorem dX2_callOff_35 : decode cX2_callOff 35 = .ok (.aload_n 0, 1) := by decide +kernel
theorem dX2_callOff_36 : decode cX2_callOff 36 = .ok (.iload_n 1, 1) := by decide +kernel
theorem dX2_callOff_37 : decode cX2_callOff 37 = .ok (.invokevirtual 95, 3) := by decide +kernel
theorem dX2_callOff_40 : decode cX2_callOff 40 = .ok (.aload_n 0, 1) := by decide +kernel
theorem dX2_callOff_41 : decode cX2_callOff 41 = .ok (.dup, 1) := by decide +kernel
theorem dX2_callOff_42 : decode cX2_callOff 42 = .ok (.getfield 78, 3) := by decide +kernel
theorem dX2_callOff_45 : decode cX2_callOff 45 = .ok (.iconst 1, 1) := by decide +kernel
theorem dX2_callOff_46 : decode cX2_callOff 46 = .ok (.iload_n 1, 1) := by decide +kernel
theorem dX2_callOff_47 : decode cX2_callOff 47 = .ok (.ishl, 1) := by decide +kernel
theorem dX2_callOff_48 : decode cX2_callOff 48 = .ok (.ior, 1) := by decide +kernel
theorem dX2_callOff_49 : decode cX2_callOff 49 = .ok (.putfield 78, 3) := by decide +kernel
theorem dX2_callOff_52 : decode cX2_callOff 52 = .ok (.iload_n 2, 1) := by decide +kernel
theorem dX2_callOff_53 : decode cX2_callOff 53 = .ok (.ireturn, 1) := by decide +kernel
theorem dX2_canSwap_0 : decode cX2_canSwap 0 = .ok (.iload_n 1, 1) := by decide +kernel
theorem dX2_canSwap_1 : decode cX2_canSwap 1 = .ok (.iload_n 2, 1) := by decide +kernel
theorem dX2_canSwap_2 : decode cX2_canSwap 2 = .ok (.if_icmp .eq 31, 3) := by decide +kernel
theorem dX2_canSwap_5 : decode cX2_canSwap 5 = .ok (.aload_n 0, 1) := by decide +kernel
theorem dX2_canSwap_6 : decode cX2_canSwap 6 = .ok (.iload_n 1, 1) := by decide +kernel
theorem dX2_canSwap_7 : decode cX2_canSwap 7 = .ok (.invokevirtual 136, 3) := by decide +kernel
theorem dX2_canSwap_10 : decode cX2_canSwap 10 = .ok (.ifCond .eq 23, 3) := by decide +kernel
theorem dX2_canSwap_13 : decode cX2_canSwap 13 = .ok (.aload_n 0, 1) := by decide +kernel
theorem dX2_canSwap_14 : decode cX2_canSwap 14 = .ok (.iload_n 2, 1) := by decide +kernel
theorem dX2_canSwap_15 : decode cX2_canSwap 15 = .ok (.invokevirtual 136, 3) := by decide +kernel
theorem dX2_canSwap_18 : decode cX2_canSwap 18 = .ok (.ifCond .eq 15, 3) := by decide +kernel
theorem dX2_canSwap_21 : decode cX2_canSwap 21 = .ok (.aload_n 0, 1) := by decide +kernel
theorem dX2_canSwap_22 : decode cX2_canSwap 22 = .ok (.getfield 12, 3) := by decide +kernel
theorem dX2_canSwap_25 : decode cX2_canSwap 25 = .ok (.iload_n 1, 1) := by decide +kernel
theorem dX2_canSwap_26 : decode cX2_canSwap 26 = .ok (.iload_n 2, 1) := by decide +kernel
theorem dX2_canSwap_27 : decode cX2_canSwap 27 = .ok (.invokevirtual 143, 3) := by decide +kernel
theorem dX2_canSwap_30 : decode cX2_canSwap 30 = .ok (.ifCond .ne 5, 3) := by decide +kernel
theorem dX2_canSwap_33 : decode cX2_canSwap 33 = .ok (.iconst 0, 1) := by decide +kernel
theorem dX2_canSwap_34 : decode cX2_canSwap 34 = .ok (.ireturn, 1) := by decide +kernel
theorem dX2_canSwap_35 : decode cX2_canSwap 35 = .ok (.aload_n 0, 1) := by decide +kernel
theorem dX2_canSwap_36 : decode cX2_canSwap 36 = .ok (.getfield 46, 3) := by decide +kernel
theorem dX2_canSwap_39 : decode cX2_canSwap 39 = .ok (.iload_n 1, 1) := by decide +kernel
theorem dX2_canSwap_40 : decode cX2_canSwap 40 = .ok (.iaload, 1) := by decide +kernel
theorem dX2_canSwap_41 : decode cX2_canSwap 41 = .ok (.aload_n 0, 1) := by decide +kernel
theorem dX2_canSwap_42 : decode cX2_canSwap 42 = .ok (.iload_n 2, 1) := by decide +kernel
theorem dX2_canSwap_43 : decode cX2_canSwap 43 = .ok (.invokevirtual 147, 3) := by decide +kernel
theorem dX2_canSwap_46 : decode cX2_canSwap 46 = .ok (.if_icmp .lt 21, 3) := by decide +kernel
theorem dX2_canSwap_49 : decode cX2_canSwap 49 = .ok (.aload_n 0, 1) := by decide +kernel
theorem dX2_canSwap_50 : decode cX2_canSwap 50 = .ok (.getfield 46, 3) := by decide +kernel
theorem dX2_canSwap_53 : decode cX2_canSwap 53 = .ok (.iload_n 2, 1) := by decide +kernel
theorem dX2_canSwap_54 : decode cX2_canSwap 54 = .ok (.iaload, 1) := by decide +kernel
theorem dX2_canSwap_55 : decode cX2_canSwap 55 = .ok (.aload_n 0, 1) := by decide +kernel
theorem dX2_canSwap_56 : decode cX2_canSwap 56 = .ok (.iload_n 1, 1) := by decide +kernel
theorem dX2_canSwap_57 : decode cX2_canSwap 57 = .ok (.invokevirtual 147, 3) := by decide +kernel
theorem dX2_canSwap_60 : decode cX2_canSwap 60 = .ok (.if_icmp .lt 7, 3) := by decide +kernel
theorem dX2_canSwap_63 : decode cX2_canSwap 63 = .ok (.iconst 1, 1) := by decide +kernel
theorem dX2_canSwap_64 : decode cX2_canSwap 64 = .ok (.goto 4, 3) := by decide +kernel
theorem dX2_canSwap_67 : decode cX2_canSwap 67 = .ok (.iconst 0, 1) := by decide +kernel
theorem dX2_canSwap_68 : decode cX2_canSwap 68 = .ok (.ireturn, 1) := by decide +kernel
theorem dX2_swap_0 : decode cX2_swap 0 = .ok (.aload_n 0, 1) := by decide +kernel
theorem dX2_swap_1 : decode cX2_swap 1 = .ok (.iload_n 1, 1) := by decide +kernel
theorem dX2_swap_2 : decode cX2_swap 2 = .ok (.invokevirtual 126, 3) := by decide +kernel
theorem dX2_swap_5 : decode cX2_swap 5 = .ok (.ifCond .eq 35, 3) := by decide +kernel
theorem dX2_swap_8 : decode cX2_swap 8 = .ok (.aload_n 0, 1) := by decide +kernel
theorem dX2_swap_9 : decode cX2_swap 9 = .ok (.iload_n 2, 1) := by decide +kernel
theorem dX2_swap_10 : decode cX2_swap 10 = .ok (.invokevirtual 126, 3) := by decide +kernel
theorem dX2_swap_13 : decode cX2_swap 13 = .ok (.ifCond .eq 27, 3) := by decide +kernel
theorem dX2_swap_16 : decode cX2_swap 16 = .ok (.aload_n 0, 1) := by decide +kernel
theorem dX2_swap_17 : decode cX2_swap 17 = .ok (.getfield 46, 3) := by decide +kernel
theorem dX2_swap_20 : decode cX2_swap 20 = .ok (.iload_n 1, 1) := by decide +kernel
theorem dX2_swap_21 : decode cX2_swap 21 = .ok (.iaload, 1) := by decide +kernel
theorem dX2_swap_22 : decode cX2_swap 22 = .ok (.istore_n 3, 1) := by decide +kernel
theorem dX2_swap_23 : decode cX2_swap 23 = .ok (.aload_n 0, 1) := by decide +kernel
theorem dX2_swap_24 : decode cX2_swap 24 = .ok (.iload_n 1, 1) := by decide +kernel
theorem dX2_swap_25 : decode cX2_swap 25 = .ok (.aload_n 0, 1) := by decide +kernel
theorem dX2_swap_26 : decode cX2_swap 26 = .ok (.getfield 46, 3) := by decide +kernel
theorem dX2_swap_29 : decode cX2_swap 29 = .ok (.iload_n 2, 1) := by decide +kernel
theorem dX2_swap_30 : decode cX2_swap 30 = .ok (.iaload, 1) := by decide +kernel
theorem dX2_swap_31 : decode cX2_swap 31 = .ok (.invokevirtual 150, 3) := by decide +kernel
theorem dX2_swap_34 : decode cX2_swap 34 = .ok (.aload_n 0, 1) := by decide +kernel
theorem dX2_swap_35 : decode cX2_swap 35 = .ok (.iload_n 2, 1) := by decide +kernel
theorem dX2_swap_36 : decode cX2_swap 36 = .ok (.iload_n 3, 1) := by decide +kernel
theorem dX2_swap_37 : decode cX2_swap 37 = .ok (.invokevirtual 150, 3) := by decide +kernel
theorem dX2_swap_40 : decode cX2_swap 40 = .ok (.return_, 1) := by decide +kernel
theorem dX2_takeVacancy_0 : decode cX2_takeVacancy 0 = .ok (.aload_n 0, 1) := by decide +kernel
theorem dX2_takeVacancy_1 : decode cX2_takeVacancy 1 = .ok (.getfield 28, 3) := by decide +kernel
theorem dX2_takeVacancy_4 : decode cX2_takeVacancy 4 = .ok (.iload_n 2, 1) := by decide +kernel
theorem dX2_takeVacancy_5 : decode cX2_takeVacancy 5 = .ok (.invokevirtual 153, 3) := by decide +kernel
theorem dX2_takeVacancy_8 : decode cX2_takeVacancy 8 = .ok (.istore_n 3, 1) := by decide +kernel
theorem dX2_takeVacancy_9 : decode cX2_takeVacancy 9 = .ok (.aload_n 0, 1) := by decide +kernel
theorem dX2_takeVacancy_10 : decode cX2_takeVacancy 10 = .ok (.getfield 28, 3) := by decide +kernel
theorem dX2_takeVacancy_13 : decode cX2_takeVacancy 13 = .ok (.iload_n 2, 1) := by decide +kernel
theorem dX2_takeVacancy_14 : decode cX2_takeVacancy 14 = .ok (.invokevirtual 156, 3) := by decide +kernel
theorem dX2_takeVacancy_17 : decode cX2_takeVacancy 17 = .ok (.istore 4, 2) := by decide +kernel
theorem dX2_takeVacancy_19 : decode cX2_takeVacancy 19 = .ok (.iload_n 3, 1) := by decide +kernel
theorem dX2_takeVacancy_20 : decode cX2_takeVacancy 20 = .ok (.iconst (-1), 1) := by decide +kernel
theorem dX2_takeVacancy_21 : decode cX2_takeVacancy 21 = .ok (.if_icmp .eq 11, 3) := by decide +kernel
theorem dX2_takeVacancy_24 : decode cX2_takeVacancy 24 = .ok (.aload_n 0, 1) := by decide +kernel
theorem dX2_takeVacancy_25 : decode cX2_takeVacancy 25 = .ok (.iload_n 1, 1) := by decide +kernel
theorem dX2_takeVacancy_26 : decode cX2_takeVacancy 26 = .ok (.invokevirtual 126, 3) := by decide +kernel
theorem dX2_takeVacancy_29 : decode cX2_takeVacancy 29 = .ok (.ifCond .ne 6, 3) := by decide +kernel
theorem dX2_takeVacancy_32 : decode cX2_takeVacancy 32 = .ok (.bipush (-2), 2) := by decide +kernel
theorem dX2_takeVacancy_34 : decode cX2_takeVacancy 34 = .ok (.ireturn, 1) := by decide +kernel
theorem dX2_takeVacancy_35 : decode cX2_takeVacancy 35 = .ok (.aload_n 0, 1) := by decide +kernel
theorem dX2_takeVacancy_36 : decode cX2_takeVacancy 36 = .ok (.getfield 46, 3) := by decide +kernel
theorem dX2_takeVacancy_39 : decode cX2_takeVacancy 39 = .ok (.iload_n 1, 1) := by decide +kernel
theorem dX2_takeVacancy_40 : decode cX2_takeVacancy 40 = .ok (.iaload, 1) := by decide +kernel
theorem dX2_takeVacancy_41 : decode cX2_takeVacancy 41 = .ok (.istore 5, 2) := by decide +kernel
theorem dX2_takeVacancy_43 : decode cX2_takeVacancy 43 = .ok (.aload_n 0, 1) := by decide +kernel
theorem dX2_takeVacancy_44 : decode cX2_takeVacancy 44 = .ok (.getfield 28, 3) := by decide +kernel
theorem dX2_takeVacancy_47 : decode cX2_takeVacancy 47 = .ok (.iload_n 2, 1) := by decide +kernel
theorem dX2_takeVacancy_48 : decode cX2_takeVacancy 48 = .ok (.invokevirtual 159, 3) := by decide +kernel
theorem dX2_takeVacancy_51 : decode cX2_takeVacancy 51 = .ok (.aload_n 0, 1) := by decide +kernel
theorem dX2_takeVacancy_52 : decode cX2_takeVacancy 52 = .ok (.iload_n 1, 1) := by decide +kernel
theorem dX2_takeVacancy_53 : decode cX2_takeVacancy 53 = .ok (.iload_n 3, 1) := by decide +kernel
theorem dX2_takeVacancy_54 : decode cX2_takeVacancy 54 = .ok (.invokevirtual 150, 3) := by decide +kernel
theorem dX2_takeVacancy_57 : decode cX2_takeVacancy 57 = .ok (.aload_n 0, 1) := by decide +kernel
theorem dX2_takeVacancy_58 : decode cX2_takeVacancy 58 = .ok (.getfield 28, 3) := by decide +kernel
theorem dX2_takeVacancy_61 : decode cX2_takeVacancy 61 = .ok (.iload 5, 2) := by decide +kernel
theorem dX2_takeVacancy_63 : decode cX2_takeVacancy 63 = .ok (.iload 4, 2) := by decide +kernel
theorem dX2_takeVacancy_65 : decode cX2_takeVacancy 65 = .ok (.invokevirtual 139, 3) := by decide +kernel
theorem dX2_takeVacancy_68 : decode cX2_takeVacancy 68 = .ok (.iload 5, 2) := by decide +kernel
theorem dX2_takeVacancy_70 : decode cX2_takeVacancy 70 = .ok (.ireturn, 1) := by decide +kernel
theorem dX2_fillVacancies_0 : decode cX2_fillVacancies 0 = .ok (.iconst 0, 1) := by decide +kernel
theorem dX2_fillVacancies_1 : decode cX2_fillVacancies 1 = .ok (.istore_n 1, 1) := by decide +kernel
theorem dX2_fillVacancies_2 : decode cX2_fillVacancies 2 = .ok (.iload_n 1, 1) := by decide +kernel
theorem dX2_fillVacancies_3 : decode cX2_fillVacancies 3 = .ok (.sipush 1000, 3) := by decide +kernel
theorem dX2_fillVacancies_6 : decode cX2_fillVacancies 6 = .ok (.if_icmp .ge 18, 3) := by decide +kernel
theorem dX2_fillVacancies_9 : decode cX2_fillVacancies 9 = .ok (.aload_n 0, 1) := by decide +kernel
theorem dX2_fillVacancies_10 : decode cX2_fillVacancies 10 = .ok (.invokevirtual 162, 3) := by decide +kernel
theorem dX2_fillVacancies_13 : decode cX2_fillVacancies 13 = .ok (.ifCond .ne 5, 3) := by decide +kernel
theorem dX2_fillVacancies_16 : decode cX2_fillVacancies 16 = .ok (.iload_n 1, 1) := by decide +kernel
theorem dX2_fillVacancies_17 : decode cX2_fillVacancies 17 = .ok (.ireturn, 1) := by decide +kernel
theorem dX2_fillVacancies_18 : decode cX2_fillVacancies 18 = .ok (.iinc 1 1, 3) := by decide +kernel
theorem dX2_fillVacancies_21 : decode cX2_fillVacancies 21 = .ok (.goto (-19), 3) := by decide +kernel
theorem dX2_fillVacancies_24 : decode cX2_fillVacancies 24 = .ok (.sipush 1000, 3) := by decide +kernel
theorem dX2_fillVacancies_27 : decode cX2_fillVacancies 27 = .ok (.ireturn, 1) := by decide +kernel
theorem dX2_fillFirst_0 : decode cX2_fillFirst 0 = .ok (.iconst 0, 1) := by decide +kernel
theorem dX2_fillFirst_1 : decode cX2_fillFirst 1 = .ok (.istore_n 1, 1) := by decide +kernel
theorem dX2_fillFirst_2 : decode cX2_fillFirst 2 = .ok (.iload_n 1, 1) := by decide +kernel
theorem dX2_fillFirst_3 : decode cX2_fillFirst 3 = .ok (.aload_n 0, 1) := by decide +kernel
theorem dX2_fillFirst_4 : decode cX2_fillFirst 4 = .ok (.getfield 28, 3) := by decide +kernel
theorem dX2_fillFirst_7 : decode cX2_fillFirst 7 = .ok (.getfield 102, 3) := by decide +kernel
theorem dX2_fillFirst_10 : decode cX2_fillFirst 10 = .ok (.if_icmp .ge 44, 3) := by decide +kernel
theorem dX2_fillFirst_13 : decode cX2_fillFirst 13 = .ok (.aload_n 0, 1) := by decide +kernel
theorem dX2_fillFirst_14 : decode cX2_fillFirst 14 = .ok (.aload_n 0, 1) := by decide +kernel
theorem dX2_fillFirst_15 : decode cX2_fillFirst 15 = .ok (.getfield 28, 3) := by decide +kernel
theorem dX2_fillFirst_18 : decode cX2_fillFirst 18 = .ok (.iload_n 1, 1) := by decide +kernel
theorem dX2_fillFirst_19 : decode cX2_fillFirst 19 = .ok (.invokevirtual 153, 3) := by decide +kernel
theorem dX2_fillFirst_22 : decode cX2_fillFirst 22 = .ok (.aload_n 0, 1) := by decide +kernel
theorem dX2_fillFirst_23 : decode cX2_fillFirst 23 = .ok (.getfield 28, 3) := by decide +kernel
theorem dX2_fillFirst_26 : decode cX2_fillFirst 26 = .ok (.iload_n 1, 1) := by decide +kernel
theorem dX2_fillFirst_27 : decode cX2_fillFirst 27 = .ok (.invokevirtual 156, 3) := by decide +kernel
theorem dX2_fillFirst_30 : decode cX2_fillFirst 30 = .ok (.invokevirtual 166, 3) := by decide +kernel
theorem dX2_fillFirst_33 : decode cX2_fillFirst 33 = .ok (.istore_n 2, 1) := by decide +kernel
theorem dX2_fillFirst_34 : decode cX2_fillFirst 34 = .ok (.iload_n 2, 1) := by decide +kernel
theorem dX2_fillFirst_35 : decode cX2_fillFirst 35 = .ok (.iconst (-1), 1) := by decide +kernel
theorem dX2_fillFirst_36 : decode cX2_fillFirst 36 = .ok (.if_icmp .eq 12, 3) := by decide +kernel
theorem dX2_fillFirst_39 : decode cX2_fillFirst 39 = .ok (.aload_n 0, 1) := by decide +kernel
theorem dX2_fillFirst_40 : decode cX2_fillFirst 40 = .ok (.iload_n 2, 1) := by decide +kernel
theorem dX2_fillFirst_41 : decode cX2_fillFirst 41 = .ok (.iload_n 1, 1) := by decide +kernel
theorem dX2_fillFirst_42 : decode cX2_fillFirst 42 = .ok (.invokevirtual 169, 3) := by decide +kernel
theorem dX2_fillFirst_45 : decode cX2_fillFirst 45 = .ok (.pop, 1) := by decide +kernel
theorem dX2_fillFirst_46 : decode cX2_fillFirst 46 = .ok (.iconst 1, 1) := by decide +kernel
theorem dX2_fillFirst_47 : decode cX2_fillFirst 47 = .ok (.ireturn, 1) := by decide +kernel
theorem dX2_fillFirst_48 : decode cX2_fillFirst 48 = .ok (.iinc 1 1, 3) := by decide +kernel
theorem dX2_fillFirst_51 : decode cX2_fillFirst 51 = .ok (.goto (-49), 3) := by decide +kernel
theorem dX2_fillFirst_54 : decode cX2_fillFirst 54 = .ok (.iconst 0, 1) := by decide +kernel
theorem dX2_fillFirst_55 : decode cX2_fillFirst 55 = .ok (.ireturn, 1) := by decide +kernel
theorem dX2_fillerOf_0 : decode cX2_fillerOf 0 = .ok (.iconst (-1), 1) := by decide +kernel
theorem dX2_fillerOf_1 : decode cX2_fillerOf 1 = .ok (.istore_n 3, 1) := by decide +kernel
theorem dX2_fillerOf_2 : decode cX2_fillerOf 2 = .ok (.iconst (-1), 1) := by decide +kernel
theorem dX2_fillerOf_3 : decode cX2_fillerOf 3 = .ok (.istore 4, 2) := by decide +kernel
theorem dX2_fillerOf_5 : decode cX2_fillerOf 5 = .ok (.iconst 0, 1) := by decide +kernel
theorem dX2_fillerOf_6 : decode cX2_fillerOf 6 = .ok (.istore 5, 2) := by decide +kernel
theorem dX2_fillerOf_8 : decode cX2_fillerOf 8 = .ok (.iload 5, 2) := by decide +kernel
theorem dX2_fillerOf_10 : decode cX2_fillerOf 10 = .ok (.bipush 20, 2) := by decide +kernel
theorem dX2_fillerOf_12 : decode cX2_fillerOf 12 = .ok (.if_icmp .ge 77, 3) := by decide +kernel
theorem dX2_fillerOf_15 : decode cX2_fillerOf 15 = .ok (.aload_n 0, 1) := by decide +kernel
theorem dX2_fillerOf_16 : decode cX2_fillerOf 16 = .ok (.iload 5, 2) := by decide +kernel
theorem dX2_fillerOf_18 : decode cX2_fillerOf 18 = .ok (.invokevirtual 136, 3) := by decide +kernel
theorem dX2_fillerOf_21 : decode cX2_fillerOf 21 = .ok (.ifCond .eq 62, 3) := by decide +kernel
theorem dX2_fillerOf_24 : decode cX2_fillerOf 24 = .ok (.aload_n 0, 1) := by decide +kernel
theorem dX2_fillerOf_25 : decode cX2_fillerOf 25 = .ok (.getfield 46, 3) := by decide +kernel
theorem dX2_fillerOf_28 : decode cX2_fillerOf 28 = .ok (.iload 5, 2) := by decide +kernel
theorem dX2_fillerOf_30 : decode cX2_fillerOf 30 = .ok (.iaload, 1) := by decide +kernel
theorem dX2_fillerOf_31 : decode cX2_fillerOf 31 = .ok (.iload_n 1, 1) := by decide +kernel
theorem dX2_fillerOf_32 : decode cX2_fillerOf 32 = .ok (.if_icmp .le 51, 3) := by decide +kernel
theorem dX2_fillerOf_35 : decode cX2_fillerOf 35 = .ok (.aload_n 0, 1) := by decide +kernel
theorem dX2_fillerOf_36 : decode cX2_fillerOf 36 = .ok (.iload 5, 2) := by decide +kernel
theorem dX2_fillerOf_38 : decode cX2_fillerOf 38 = .ok (.invokevirtual 147, 3) := by decide +kernel
theorem dX2_fillerOf_41 : decode cX2_fillerOf 41 = .ok (.iload_n 1, 1) := by decide +kernel
theorem dX2_fillerOf_42 : decode cX2_fillerOf 42 = .ok (.if_icmp .le 6, 3) := by decide +kernel
theorem dX2_fillerOf_45 : decode cX2_fillerOf 45 = .ok (.goto 38, 3) := by decide +kernel
theorem dX2_fillerOf_48 : decode cX2_fillerOf 48 = .ok (.aload_n 0, 1) := by decide +kernel
theorem dX2_fillerOf_49 : decode cX2_fillerOf 49 = .ok (.getfield 12, 3) := by decide +kernel
theorem dX2_fillerOf_52 : decode cX2_fillerOf 52 = .ok (.getfield 111, 3) := by decide +kernel
theorem dX2_fillerOf_55 : decode cX2_fillerOf 55 = .ok (.iload 5, 2) := by decide +kernel
theorem dX2_fillerOf_57 : decode cX2_fillerOf 57 = .ok (.iaload, 1) := by decide +kernel
theorem dX2_fillerOf_58 : decode cX2_fillerOf 58 = .ok (.iload_n 2, 1) := by decide +kernel
theorem dX2_fillerOf_59 : decode cX2_fillerOf 59 = .ok (.if_icmp .ne 14, 3) := by decide +kernel
theorem dX2_fillerOf_62 : decode cX2_fillerOf 62 = .ok (.aload_n 0, 1) := by decide +kernel
theorem dX2_fillerOf_63 : decode cX2_fillerOf 63 = .ok (.iload_n 3, 1) := by decide +kernel
theorem dX2_fillerOf_64 : decode cX2_fillerOf 64 = .ok (.iload 5, 2) := by decide +kernel
theorem dX2_fillerOf_66 : decode cX2_fillerOf 66 = .ok (.invokevirtual 172, 3) := by decide +kernel
theorem dX2_fillerOf_69 : decode cX2_fillerOf 69 = .ok (.istore_n 3, 1) := by decide +kernel
theorem dX2_fillerOf_70 : decode cX2_fillerOf 70 = .ok (.goto 13, 3) := by decide +kernel
theorem dX2_fillerOf_73 : decode cX2_fillerOf 73 = .ok (.aload_n 0, 1) := by decide +kernel
theorem dX2_fillerOf_74 : decode cX2_fillerOf 74 = .ok (.iload 4, 2) := by decide +kernel
theorem dX2_fillerOf_76 : decode cX2_fillerOf 76 = .ok (.iload 5, 2) := by decide +kernel
theorem dX2_fillerOf_78 : decode cX2_fillerOf 78 = .ok (.invokevirtual 172, 3) := by decide +kernel
theorem dX2_fillerOf_81 : decode cX2_fillerOf 81 = .ok (.istore 4, 2) := by decide +kernel
theorem dX2_fillerOf_83 : decode cX2_fillerOf 83 = .ok (.iinc 5 1, 3) := by decide +kernel
theorem dX2_fillerOf_86 : decode cX2_fillerOf 86 = .ok (.goto (-78), 3) := by decide +kernel
theorem dX2_fillerOf_89 : decode cX2_fillerOf 89 = .ok (.iload_n 3, 1) := by decide +kernel
theorem dX2_fillerOf_90 : decode cX2_fillerOf 90 = .ok (.iconst (-1), 1) := by decide +kernel
theorem dX2_fillerOf_91 : decode cX2_fillerOf 91 = .ok (.if_icmp .eq 7, 3) := by decide +kernel
theorem dX2_fillerOf_94 : decode cX2_fillerOf 94 = .ok (.iload_n 3, 1) := by decide +kernel
theorem dX2_fillerOf_95 : decode cX2_fillerOf 95 = .ok (.goto 5, 3) := by decide +kernel
theorem dX2_fillerOf_98 : decode cX2_fillerOf 98 = .ok (.iload 4, 2) := by decide +kernel
theorem dX2_fillerOf_100 : decode cX2_fillerOf 100 = .ok (.ireturn, 1) := by decide +kernel
theorem dX2_earlierSeated_0 : decode cX2_earlierSeated 0 = .ok (.aload_n 0, 1) := by decide +kernel
theorem dX2_earlierSeated_1 : decode cX2_earlierSeated 1 = .ok (.iload_n 1, 1) := by decide +kernel
theorem dX2_earlierSeated_2 : decode cX2_earlierSeated 2 = .ok (.invokevirtual 126, 3) := by decide +kernel
theorem dX2_earlierSeated_5 : decode cX2_earlierSeated 5 = .ok (.ifCond .eq 30, 3) := by decide +kernel
theorem dX2_earlierSeated_8 : decode cX2_earlierSeated 8 = .ok (.aload_n 0, 1) := by decide +kernel
theorem dX2_earlierSeated_9 : decode cX2_earlierSeated 9 = .ok (.iload_n 2, 1) := by decide +kernel
theorem dX2_earlierSeated_10 : decode cX2_earlierSeated 10 = .ok (.invokevirtual 126, 3) := by decide +kernel
theorem dX2_earlierSeated_13 : decode cX2_earlierSeated 13 = .ok (.ifCond .eq 22, 3) := by decide +kernel
theorem dX2_earlierSeated_16 : decode cX2_earlierSeated 16 = .ok (.aload_n 0, 1) := by decide +kernel
theorem dX2_earlierSeated_17 : decode cX2_earlierSeated 17 = .ok (.getfield 46, 3) := by decide +kernel
theorem dX2_earlierSeated_20 : decode cX2_earlierSeated 20 = .ok (.iload_n 1, 1) := by decide +kernel
theorem dX2_earlierSeated_21 : decode cX2_earlierSeated 21 = .ok (.iaload, 1) := by decide +kernel
theorem dX2_earlierSeated_22 : decode cX2_earlierSeated 22 = .ok (.aload_n 0, 1) := by decide +kernel
theorem dX2_earlierSeated_23 : decode cX2_earlierSeated 23 = .ok (.getfield 46, 3) := by decide +kernel
theorem dX2_earlierSeated_26 : decode cX2_earlierSeated 26 = .ok (.iload_n 2, 1) := by decide +kernel
theorem dX2_earlierSeated_27 : decode cX2_earlierSeated 27 = .ok (.iaload, 1) := by decide +kernel
theorem dX2_earlierSeated_28 : decode cX2_earlierSeated 28 = .ok (.if_icmp .ge 7, 3) := by decide +kernel
theorem dX2_earlierSeated_31 : decode cX2_earlierSeated 31 = .ok (.iload_n 1, 1) := by decide +kernel
theorem dX2_earlierSeated_32 : decode cX2_earlierSeated 32 = .ok (.goto 4, 3) := by decide +kernel
theorem dX2_earlierSeated_35 : decode cX2_earlierSeated 35 = .ok (.iload_n 2, 1) := by decide +kernel
theorem dX2_earlierSeated_36 : decode cX2_earlierSeated 36 = .ok (.ireturn, 1) := by decide +kernel
theorem dX2_canDeal_0 : decode cX2_canDeal 0 = .ok (.aload_n 0, 1) := by decide +kernel
theorem dX2_canDeal_1 : decode cX2_canDeal 1 = .ok (.iload_n 1, 1) := by decide +kernel
theorem dX2_canDeal_2 : decode cX2_canDeal 2 = .ok (.iload_n 2, 1) := by decide +kernel
theorem dX2_canDeal_3 : decode cX2_canDeal 3 = .ok (.invokevirtual 175, 3) := by decide +kernel
theorem dX2_canDeal_6 : decode cX2_canDeal 6 = .ok (.ifCond .eq 25, 3) := by decide +kernel
theorem dX2_canDeal_9 : decode cX2_canDeal 9 = .ok (.aload_n 0, 1) := by decide +kernel
theorem dX2_canDeal_10 : decode cX2_canDeal 10 = .ok (.iload_n 1, 1) := by decide +kernel
theorem dX2_canDeal_11 : decode cX2_canDeal 11 = .ok (.iload_n 2, 1) := by decide +kernel
theorem dX2_canDeal_12 : decode cX2_canDeal 12 = .ok (.invokevirtual 178, 3) := by decide +kernel
theorem dX2_canDeal_15 : decode cX2_canDeal 15 = .ok (.ifCond .eq 16, 3) := by decide +kernel
theorem dX2_canDeal_18 : decode cX2_canDeal 18 = .ok (.aload_n 0, 1) := by decide +kernel
theorem dX2_canDeal_19 : decode cX2_canDeal 19 = .ok (.iload_n 2, 1) := by decide +kernel
theorem dX2_canDeal_20 : decode cX2_canDeal 20 = .ok (.iload_n 1, 1) := by decide +kernel
theorem dX2_canDeal_21 : decode cX2_canDeal 21 = .ok (.invokevirtual 178, 3) := by decide +kernel
theorem dX2_canDeal_24 : decode cX2_canDeal 24 = .ok (.ifCond .eq 7, 3) := by decide +kernel
theorem dX2_canDeal_27 : decode cX2_canDeal 27 = .ok (.iconst 1, 1) := by decide +kernel
theorem dX2_canDeal_28 : decode cX2_canDeal 28 = .ok (.goto 4, 3) := by decide +kernel
theorem dX2_canDeal_31 : decode cX2_canDeal 31 = .ok (.iconst 0, 1) := by decide +kernel
theorem dX2_canDeal_32 : decode cX2_canDeal 32 = .ok (.ireturn, 1) := by decide +kernel
theorem dX2_dealGain_0 : decode cX2_dealGain 0 = .ok (.aload_n 0, 1) := by decide +kernel
theorem dX2_dealGain_1 : decode cX2_dealGain 1 = .ok (.iload_n 1, 1) := by decide +kernel
theorem dX2_dealGain_2 : decode cX2_dealGain 2 = .ok (.iload_n 2, 1) := by decide +kernel
theorem dX2_dealGain_3 : decode cX2_dealGain 3 = .ok (.invokevirtual 181, 3) := by decide +kernel
theorem dX2_dealGain_6 : decode cX2_dealGain 6 = .ok (.aload_n 0, 1) := by decide +kernel
theorem dX2_dealGain_7 : decode cX2_dealGain 7 = .ok (.iload_n 2, 1) := by decide +kernel
theorem dX2_dealGain_8 : decode cX2_dealGain 8 = .ok (.iload_n 1, 1) := by decide +kernel
theorem dX2_dealGain_9 : decode cX2_dealGain 9 = .ok (.invokevirtual 181, 3) := by decide +kernel
theorem dX2_dealGain_12 : decode cX2_dealGain 12 = .ok (.iadd, 1) := by decide +kernel
theorem dX2_dealGain_13 : decode cX2_dealGain 13 = .ok (.ireturn, 1) := by decide +kernel
theorem dX2_canRound_0 : decode cX2_canRound 0 = .ok (.aload_n 0, 1) := by decide +kernel
theorem dX2_canRound_1 : decode cX2_canRound 1 = .ok (.iload_n 1, 1) := by decide +kernel
theorem dX2_canRound_2 : decode cX2_canRound 2 = .ok (.iload_n 2, 1) := by decide +kernel
theorem dX2_canRound_3 : decode cX2_canRound 3 = .ok (.invokevirtual 175, 3) := by decide +kernel
theorem dX2_canRound_6 : decode cX2_canRound 6 = .ok (.ifCond .eq 21, 3) := by decide +kernel
theorem dX2_canRound_9 : decode cX2_canRound 9 = .ok (.aload_n 0, 1) := by decide +kernel
theorem dX2_canRound_10 : decode cX2_canRound 10 = .ok (.iload_n 2, 1) := by decide +kernel
theorem dX2_canRound_11 : decode cX2_canRound 11 = .ok (.iload_n 3, 1) := by decide +kernel
theorem dX2_canRound_12 : decode cX2_canRound 12 = .ok (.invokevirtual 175, 3) := by decide +kernel
theorem dX2_canRound_15 : decode cX2_canRound 15 = .ok (.ifCond .eq 12, 3) := by decide +kernel
theorem dX2_canRound_18 : decode cX2_canRound 18 = .ok (.aload_n 0, 1) := by decide +kernel
theorem dX2_canRound_19 : decode cX2_canRound 19 = .ok (.iload_n 1, 1) := by decide +kernel
theorem dX2_canRound_20 : decode cX2_canRound 20 = .ok (.iload_n 3, 1) := by decide +kernel
theorem dX2_canRound_21 : decode cX2_canRound 21 = .ok (.invokevirtual 175, 3) := by decide +kernel
theorem dX2_canRound_24 : decode cX2_canRound 24 = .ok (.ifCond .ne 5, 3) := by decide +kernel
theorem dX2_canRound_27 : decode cX2_canRound 27 = .ok (.iconst 0, 1) := by decide +kernel
theorem dX2_canRound_28 : decode cX2_canRound 28 = .ok (.ireturn, 1) := by decide +kernel
theorem dX2_canRound_29 : decode cX2_canRound 29 = .ok (.aload_n 0, 1) := by decide +kernel
theorem dX2_canRound_30 : decode cX2_canRound 30 = .ok (.iload_n 1, 1) := by decide +kernel
theorem dX2_canRound_31 : decode cX2_canRound 31 = .ok (.iload_n 2, 1) := by decide +kernel
theorem dX2_canRound_32 : decode cX2_canRound 32 = .ok (.invokevirtual 178, 3) := by decide +kernel
theorem dX2_canRound_35 : decode cX2_canRound 35 = .ok (.ifCond .eq 25, 3) := by decide +kernel
theorem dX2_canRound_38 : decode cX2_canRound 38 = .ok (.aload_n 0, 1) := by decide +kernel
theorem dX2_canRound_39 : decode cX2_canRound 39 = .ok (.iload_n 2, 1) := by decide +kernel
theorem dX2_canRound_40 : decode cX2_canRound 40 = .ok (.iload_n 3, 1) := by decide +kernel
theorem dX2_canRound_41 : decode cX2_canRound 41 = .ok (.invokevirtual 178, 3) := by decide +kernel
theorem dX2_canRound_44 : decode cX2_canRound 44 = .ok (.ifCond .eq 16, 3) := by decide +kernel
theorem dX2_canRound_47 : decode cX2_canRound 47 = .ok (.aload_n 0, 1) := by decide +kernel
theorem dX2_canRound_48 : decode cX2_canRound 48 = .ok (.iload_n 3, 1) := by decide +kernel
theorem dX2_canRound_49 : decode cX2_canRound 49 = .ok (.iload_n 1, 1) := by decide +kernel
theorem dX2_canRound_50 : decode cX2_canRound 50 = .ok (.invokevirtual 178, 3) := by decide +kernel
theorem dX2_canRound_53 : decode cX2_canRound 53 = .ok (.ifCond .eq 7, 3) := by decide +kernel
theorem dX2_canRound_56 : decode cX2_canRound 56 = .ok (.iconst 1, 1) := by decide +kernel
theorem dX2_canRound_57 : decode cX2_canRound 57 = .ok (.goto 4, 3) := by decide +kernel
theorem dX2_canRound_60 : decode cX2_canRound 60 = .ok (.iconst 0, 1) := by decide +kernel
theorem dX2_canRound_61 : decode cX2_canRound 61 = .ok (.ireturn, 1) := by decide +kernel
theorem dX2_haveUnlikeLines_0 : decode cX2_haveUnlikeLines 0 = .ok (.aload_n 0, 1) := by decide +kernel
theorem dX2_haveUnlikeLines_1 : decode cX2_haveUnlikeLines 1 = .ok (.getfield 35, 3) := by decide +kernel
theorem dX2_haveUnlikeLines_4 : decode cX2_haveUnlikeLines 4 = .ok (.iload_n 1, 1) := by decide +kernel
theorem dX2_haveUnlikeLines_5 : decode cX2_haveUnlikeLines 5 = .ok (.invokevirtual 184, 3) := by decide +kernel
theorem dX2_haveUnlikeLines_8 : decode cX2_haveUnlikeLines 8 = .ok (.ifCond .eq 46, 3) := by decide +kernel
theorem dX2_haveUnlikeLines_11 : decode cX2_haveUnlikeLines 11 = .ok (.aload_n 0, 1) := by decide +kernel
theorem dX2_haveUnlikeLines_12 : decode cX2_haveUnlikeLines 12 = .ok (.getfield 35, 3) := by decide +kernel
theorem dX2_haveUnlikeLines_15 : decode cX2_haveUnlikeLines 15 = .ok (.iload_n 2, 1) := by decide +kernel
theorem dX2_haveUnlikeLines_16 : decode cX2_haveUnlikeLines 16 = .ok (.invokevirtual 184, 3) := by decide +kernel
theorem dX2_haveUnlikeLines_19 : decode cX2_haveUnlikeLines 19 = .ok (.ifCond .eq 35, 3) := by decide +kernel
theorem dX2_haveUnlikeLines_22 : decode cX2_haveUnlikeLines 22 = .ok (.aload_n 0, 1) := by decide +kernel
theorem dX2_haveUnlikeLines_23 : decode cX2_haveUnlikeLines 23 = .ok (.getfield 12, 3) := by decide +kernel
theorem dX2_haveUnlikeLines_26 : decode cX2_haveUnlikeLines 26 = .ok (.aload_n 0, 1) := by decide +kernel
theorem dX2_haveUnlikeLines_27 : decode cX2_haveUnlikeLines 27 = .ok (.getfield 35, 3) := by decide +kernel
theorem dX2_haveUnlikeLines_30 : decode cX2_haveUnlikeLines 30 = .ok (.getfield 187, 3) := by decide +kernel
theorem dX2_haveUnlikeLines_33 : decode cX2_haveUnlikeLines 33 = .ok (.iload_n 1, 1) := by decide +kernel
theorem dX2_haveUnlikeLines_34 : decode cX2_haveUnlikeLines 34 = .ok (.iaload, 1) := by decide +kernel
theorem dX2_haveUnlikeLines_35 : decode cX2_haveUnlikeLines 35 = .ok (.aload_n 0, 1) := by decide +kernel
theorem dX2_haveUnlikeLines_36 : decode cX2_haveUnlikeLines 36 = .ok (.getfield 35, 3) := by decide +kernel
theorem dX2_haveUnlikeLines_39 : decode cX2_haveUnlikeLines 39 = .ok (.getfield 187, 3) := by decide +kernel
theorem dX2_haveUnlikeLines_42 : decode cX2_haveUnlikeLines 42 = .ok (.iload_n 2, 1) := by decide +kernel
theorem dX2_haveUnlikeLines_43 : decode cX2_haveUnlikeLines 43 = .ok (.iaload, 1) := by decide +kernel
theorem dX2_haveUnlikeLines_44 : decode cX2_haveUnlikeLines 44 = .ok (.invokevirtual 143, 3) := by decide +kernel
theorem dX2_haveUnlikeLines_47 : decode cX2_haveUnlikeLines 47 = .ok (.ifCond .ne 7, 3) := by decide +kernel
theorem dX2_haveUnlikeLines_50 : decode cX2_haveUnlikeLines 50 = .ok (.iconst 1, 1) := by decide +kernel
theorem dX2_haveUnlikeLines_51 : decode cX2_haveUnlikeLines 51 = .ok (.goto 4, 3) := by decide +kernel
theorem dX2_haveUnlikeLines_54 : decode cX2_haveUnlikeLines 54 = .ok (.iconst 0, 1) := by decide +kernel
theorem dX2_haveUnlikeLines_55 : decode cX2_haveUnlikeLines 55 = .ok (.ireturn, 1) := by decide +kernel
theorem dX2_canTrade_0 : decode cX2_canTrade 0 = .ok (.aload_n 0, 1) := by decide +kernel
theorem dX2_canTrade_1 : decode cX2_canTrade 1 = .ok (.getfield 35, 3) := by decide +kernel
theorem dX2_canTrade_4 : decode cX2_canTrade 4 = .ok (.getfield 190, 3) := by decide +kernel
theorem dX2_canTrade_7 : decode cX2_canTrade 7 = .ok (.iload_n 1, 1) := by decide +kernel
theorem dX2_canTrade_8 : decode cX2_canTrade 8 = .ok (.iaload, 1) := by decide +kernel
theorem dX2_canTrade_9 : decode cX2_canTrade 9 = .ok (.istore_n 3, 1) := by decide +kernel
theorem dX2_canTrade_10 : decode cX2_canTrade 10 = .ok (.aload_n 0, 1) := by decide +kernel
theorem dX2_canTrade_11 : decode cX2_canTrade 11 = .ok (.getfield 35, 3) := by decide +kernel
theorem dX2_canTrade_14 : decode cX2_canTrade 14 = .ok (.getfield 187, 3) := by decide +kernel
theorem dX2_canTrade_17 : decode cX2_canTrade 17 = .ok (.iload_n 2, 1) := by decide +kernel
theorem dX2_canTrade_18 : decode cX2_canTrade 18 = .ok (.iaload, 1) := by decide +kernel
theorem dX2_canTrade_19 : decode cX2_canTrade 19 = .ok (.istore 4, 2) := by decide +kernel
theorem dX2_canTrade_21 : decode cX2_canTrade 21 = .ok (.aload_n 0, 1) := by decide +kernel
theorem dX2_canTrade_22 : decode cX2_canTrade 22 = .ok (.iload_n 3, 1) := by decide +kernel
theorem dX2_canTrade_23 : decode cX2_canTrade 23 = .ok (.invokevirtual 136, 3) := by decide +kernel
theorem dX2_canTrade_26 : decode cX2_canTrade 26 = .ok (.ifCond .eq 12, 3) := by decide +kernel
theorem dX2_canTrade_29 : decode cX2_canTrade 29 = .ok (.aload_n 0, 1) := by decide +kernel
theorem dX2_canTrade_30 : decode cX2_canTrade 30 = .ok (.iload 4, 2) := by decide +kernel
theorem dX2_canTrade_32 : decode cX2_canTrade 32 = .ok (.invokevirtual 136, 3) := by decide +kernel
theorem dX2_canTrade_35 : decode cX2_canTrade 35 = .ok (.ifCond .ne 5, 3) := by decide +kernel
theorem dX2_canTrade_38 : decode cX2_canTrade 38 = .ok (.iconst 0, 1) := by decide +kernel
theorem dX2_canTrade_39 : decode cX2_canTrade 39 = .ok (.ireturn, 1) := by decide +kernel
theorem dX2_canTrade_40 : decode cX2_canTrade 40 = .ok (.aload_n 0, 1) := by decide +kernel
theorem dX2_canTrade_41 : decode cX2_canTrade 41 = .ok (.getfield 46, 3) := by decide +kernel
theorem dX2_canTrade_44 : decode cX2_canTrade 44 = .ok (.iload 4, 2) := by decide +kernel
theorem dX2_canTrade_46 : decode cX2_canTrade 46 = .ok (.iaload, 1) := by decide +kernel
theorem dX2_canTrade_47 : decode cX2_canTrade 47 = .ok (.istore 5, 2) := by decide +kernel
theorem dX2_canTrade_49 : decode cX2_canTrade 49 = .ok (.aload_n 0, 1) := by decide +kernel
theorem dX2_canTrade_50 : decode cX2_canTrade 50 = .ok (.getfield 46, 3) := by decide +kernel
theorem dX2_canTrade_53 : decode cX2_canTrade 53 = .ok (.iload_n 3, 1) := by decide +kernel
theorem dX2_canTrade_54 : decode cX2_canTrade 54 = .ok (.iaload, 1) := by decide +kernel
theorem dX2_canTrade_55 : decode cX2_canTrade 55 = .ok (.istore 6, 2) := by decide +kernel
theorem dX2_canTrade_57 : decode cX2_canTrade 57 = .ok (.iload 5, 2) := by decide +kernel
theorem dX2_canTrade_59 : decode cX2_canTrade 59 = .ok (.iload 6, 2) := by decide +kernel
theorem dX2_canTrade_61 : decode cX2_canTrade 61 = .ok (.if_icmp .ge 27, 3) := by decide +kernel
theorem dX2_canTrade_64 : decode cX2_canTrade 64 = .ok (.iload 5, 2) := by decide +kernel
theorem dX2_canTrade_66 : decode cX2_canTrade 66 = .ok (.aload_n 0, 1) := by decide +kernel
theorem dX2_canTrade_67 : decode cX2_canTrade 67 = .ok (.getfield 35, 3) := by decide +kernel
theorem dX2_canTrade_70 : decode cX2_canTrade 70 = .ok (.getfield 193, 3) := by decide +kernel
theorem dX2_canTrade_73 : decode cX2_canTrade 73 = .ok (.iload_n 1, 1) := by decide +kernel
theorem dX2_canTrade_74 : decode cX2_canTrade 74 = .ok (.iaload, 1) := by decide +kernel
theorem dX2_canTrade_75 : decode cX2_canTrade 75 = .ok (.if_icmp .gt 13, 3) := by decide +kernel
theorem dX2_canTrade_78 : decode cX2_canTrade 78 = .ok (.iload 5, 2) := by decide +kernel
theorem dX2_canTrade_80 : decode cX2_canTrade 80 = .ok (.aload_n 0, 1) := by decide +kernel
theorem dX2_canTrade_81 : decode cX2_canTrade 81 = .ok (.iload_n 3, 1) := by decide +kernel
theorem dX2_canTrade_82 : decode cX2_canTrade 82 = .ok (.invokevirtual 147, 3) := by decide +kernel
theorem dX2_canTrade_85 : decode cX2_canTrade 85 = .ok (.if_icmp .ge 5, 3) := by decide +kernel
theorem dX2_canTrade_88 : decode cX2_canTrade 88 = .ok (.iconst 0, 1) := by decide +kernel
theorem dX2_canTrade_89 : decode cX2_canTrade 89 = .ok (.ireturn, 1) := by decide +kernel
theorem dX2_canTrade_90 : decode cX2_canTrade 90 = .ok (.iload 6, 2) := by decide +kernel
theorem dX2_canTrade_92 : decode cX2_canTrade 92 = .ok (.aload_n 0, 1) := by decide +kernel
theorem dX2_canTrade_93 : decode cX2_canTrade 93 = .ok (.getfield 35, 3) := by decide +kernel
theorem dX2_canTrade_96 : decode cX2_canTrade 96 = .ok (.getfield 196, 3) := by decide +kernel
theorem dX2_canTrade_99 : decode cX2_canTrade 99 = .ok (.iload_n 2, 1) := by decide +kernel
theorem dX2_canTrade_100 : decode cX2_canTrade 100 = .ok (.iaload, 1) := by decide +kernel
theorem dX2_canTrade_101 : decode cX2_canTrade 101 = .ok (.if_icmp .gt 18, 3) := by decide +kernel
theorem dX2_canTrade_104 : decode cX2_canTrade 104 = .ok (.iload 6, 2) := by decide +kernel
theorem dX2_canTrade_106 : decode cX2_canTrade 106 = .ok (.aload_n 0, 1) := by decide +kernel
theorem dX2_canTrade_107 : decode cX2_canTrade 107 = .ok (.iload 4, 2) := by decide +kernel
theorem dX2_canTrade_109 : decode cX2_canTrade 109 = .ok (.invokevirtual 147, 3) := by decide +kernel
theorem dX2_canTrade_112 : decode cX2_canTrade 112 = .ok (.if_icmp .lt 7, 3) := by decide +kernel
theorem dX2_canTrade_115 : decode cX2_canTrade 115 = .ok (.iconst 1, 1) := by decide +kernel
theorem dX2_canTrade_116 : decode cX2_canTrade 116 = .ok (.goto 4, 3) := by decide +kernel
theorem dX2_canTrade_119 : decode cX2_canTrade 119 = .ok (.iconst 0, 1) := by decide +kernel
theorem dX2_canTrade_120 : decode cX2_canTrade 120 = .ok (.ireturn, 1) := by decide +kernel
theorem dX2_tradeGain_0 : decode cX2_tradeGain 0 = .ok (.aload_n 0, 1) := by decide +kernel
theorem dX2_tradeGain_1 : decode cX2_tradeGain 1 = .ok (.getfield 35, 3) := by decide +kernel
theorem dX2_tradeGain_4 : decode cX2_tradeGain 4 = .ok (.iload_n 1, 1) := by decide +kernel
theorem dX2_tradeGain_5 : decode cX2_tradeGain 5 = .ok (.invokevirtual 184, 3) := by decide +kernel
theorem dX2_tradeGain_8 : decode cX2_tradeGain 8 = .ok (.ifCond .eq 14, 3) := by decide +kernel
theorem dX2_tradeGain_11 : decode cX2_tradeGain 11 = .ok (.aload_n 0, 1) := by decide +kernel
theorem dX2_tradeGain_12 : decode cX2_tradeGain 12 = .ok (.getfield 35, 3) := by decide +kernel
theorem dX2_tradeGain_15 : decode cX2_tradeGain 15 = .ok (.iload_n 2, 1) := by decide +kernel
theorem dX2_tradeGain_16 : decode cX2_tradeGain 16 = .ok (.invokevirtual 184, 3) := by decide +kernel
theorem dX2_tradeGain_19 : decode cX2_tradeGain 19 = .ok (.ifCond .ne 5, 3) := by decide +kernel
theorem dX2_tradeGain_22 : decode cX2_tradeGain 22 = .ok (.iconst 0, 1) := by decide +kernel
theorem dX2_tradeGain_23 : decode cX2_tradeGain 23 = .ok (.ireturn, 1) := by decide +kernel
theorem dX2_tradeGain_24 : decode cX2_tradeGain 24 = .ok (.aload_n 0, 1) := by decide +kernel
theorem dX2_tradeGain_25 : decode cX2_tradeGain 25 = .ok (.getfield 35, 3) := by decide +kernel
theorem dX2_tradeGain_28 : decode cX2_tradeGain 28 = .ok (.getfield 190, 3) := by decide +kernel
theorem dX2_tradeGain_31 : decode cX2_tradeGain 31 = .ok (.iload_n 1, 1) := by decide +kernel
theorem dX2_tradeGain_32 : decode cX2_tradeGain 32 = .ok (.iaload, 1) := by decide +kernel
theorem dX2_tradeGain_33 : decode cX2_tradeGain 33 = .ok (.istore_n 3, 1) := by decide +kernel
theorem dX2_tradeGain_34 : decode cX2_tradeGain 34 = .ok (.aload_n 0, 1) := by decide +kernel
theorem dX2_tradeGain_35 : decode cX2_tradeGain 35 = .ok (.getfield 35, 3) := by decide +kernel
theorem dX2_tradeGain_38 : decode cX2_tradeGain 38 = .ok (.getfield 187, 3) := by decide +kernel
theorem dX2_tradeGain_41 : decode cX2_tradeGain 41 = .ok (.iload_n 2, 1) := by decide +kernel
theorem dX2_tradeGain_42 : decode cX2_tradeGain 42 = .ok (.iaload, 1) := by decide +kernel
theorem dX2_tradeGain_43 : decode cX2_tradeGain 43 = .ok (.istore 4, 2) := by decide +kernel
theorem dX2_tradeGain_45 : decode cX2_tradeGain 45 = .ok (.aload_n 0, 1) := by decide +kernel
theorem dX2_tradeGain_46 : decode cX2_tradeGain 46 = .ok (.iload_n 3, 1) := by decide +kernel
theorem dX2_tradeGain_47 : decode cX2_tradeGain 47 = .ok (.invokevirtual 126, 3) := by decide +kernel
theorem dX2_tradeGain_50 : decode cX2_tradeGain 50 = .ok (.ifCond .eq 12, 3) := by decide +kernel
theorem dX2_tradeGain_53 : decode cX2_tradeGain 53 = .ok (.aload_n 0, 1) := by decide +kernel
theorem dX2_tradeGain_54 : decode cX2_tradeGain 54 = .ok (.iload 4, 2) := by decide +kernel
theorem dX2_tradeGain_56 : decode cX2_tradeGain 56 = .ok (.invokevirtual 126, 3) := by decide +kernel
theorem dX2_tradeGain_59 : decode cX2_tradeGain 59 = .ok (.ifCond .ne 5, 3) := by decide +kernel
theorem dX2_tradeGain_62 : decode cX2_tradeGain 62 = .ok (.iconst 0, 1) := by decide +kernel
theorem dX2_tradeGain_63 : decode cX2_tradeGain 63 = .ok (.ireturn, 1) := by decide +kernel
theorem dX2_tradeGain_64 : decode cX2_tradeGain 64 = .ok (.aload_n 0, 1) := by decide +kernel
theorem dX2_tradeGain_65 : decode cX2_tradeGain 65 = .ok (.getfield 12, 3) := by decide +kernel
theorem dX2_tradeGain_68 : decode cX2_tradeGain 68 = .ok (.getfield 133, 3) := by decide +kernel
theorem dX2_tradeGain_71 : decode cX2_tradeGain 71 = .ok (.iload_n 3, 1) := by decide +kernel
theorem dX2_tradeGain_72 : decode cX2_tradeGain 72 = .ok (.iaload, 1) := by decide +kernel
theorem dX2_tradeGain_73 : decode cX2_tradeGain 73 = .ok (.aload_n 0, 1) := by decide +kernel
theorem dX2_tradeGain_74 : decode cX2_tradeGain 74 = .ok (.getfield 12, 3) := by decide +kernel
theorem dX2_tradeGain_77 : decode cX2_tradeGain 77 = .ok (.getfield 133, 3) := by decide +kernel
theorem dX2_tradeGain_80 : decode cX2_tradeGain 80 = .ok (.iload 4, 2) := by decide +kernel
theorem dX2_tradeGain_82 : decode cX2_tradeGain 82 = .ok (.iaload, 1) := by decide +kernel
theorem dX2_tradeGain_83 : decode cX2_tradeGain 83 = .ok (.isub, 1) := by decide +kernel
theorem dX2_tradeGain_84 : decode cX2_tradeGain 84 = .ok (.aload_n 0, 1) := by decide +kernel
theorem dX2_tradeGain_85 : decode cX2_tradeGain 85 = .ok (.getfield 46, 3) := by decide +kernel
theorem dX2_tradeGain_88 : decode cX2_tradeGain 88 = .ok (.iload_n 3, 1) := by decide +kernel
theorem dX2_tradeGain_89 : decode cX2_tradeGain 89 = .ok (.iaload, 1) := by decide +kernel
theorem dX2_tradeGain_90 : decode cX2_tradeGain 90 = .ok (.aload_n 0, 1) := by decide +kernel
theorem dX2_tradeGain_91 : decode cX2_tradeGain 91 = .ok (.getfield 46, 3) := by decide +kernel
theorem dX2_tradeGain_94 : decode cX2_tradeGain 94 = .ok (.iload 4, 2) := by decide +kernel
theorem dX2_tradeGain_96 : decode cX2_tradeGain 96 = .ok (.iaload, 1) := by decide +kernel
theorem dX2_tradeGain_97 : decode cX2_tradeGain 97 = .ok (.isub, 1) := by decide +kernel
theorem dX2_tradeGain_98 : decode cX2_tradeGain 98 = .ok (.imul, 1) := by decide +kernel
theorem dX2_tradeGain_99 : decode cX2_tradeGain 99 = .ok (.ireturn, 1) := by decide +kernel
theorem dX2_trade_0 : decode cX2_trade 0 = .ok (.aload_n 0, 1) := by decide +kernel
theorem dX2_trade_1 : decode cX2_trade 1 = .ok (.getfield 35, 3) := by decide +kernel
theorem dX2_trade_4 : decode cX2_trade 4 = .ok (.iload_n 1, 1) := by decide +kernel
theorem dX2_trade_5 : decode cX2_trade 5 = .ok (.invokevirtual 184, 3) := by decide +kernel
theorem dX2_trade_8 : decode cX2_trade 8 = .ok (.ifCond .eq 36, 3) := by decide +kernel
theorem dX2_trade_11 : decode cX2_trade 11 = .ok (.aload_n 0, 1) := by decide +kernel
theorem dX2_trade_12 : decode cX2_trade 12 = .ok (.getfield 35, 3) := by decide +kernel
theorem dX2_trade_15 : decode cX2_trade 15 = .ok (.iload_n 2, 1) := by decide +kernel
theorem dX2_trade_16 : decode cX2_trade 16 = .ok (.invokevirtual 184, 3) := by decide +kernel
theorem dX2_trade_19 : decode cX2_trade 19 = .ok (.ifCond .eq 25, 3) := by decide +kernel
theorem dX2_trade_22 : decode cX2_trade 22 = .ok (.aload_n 0, 1) := by decide +kernel
theorem dX2_trade_23 : decode cX2_trade 23 = .ok (.aload_n 0, 1) := by decide +kernel
theorem dX2_trade_24 : decode cX2_trade 24 = .ok (.getfield 35, 3) := by decide +kernel
theorem dX2_trade_27 : decode cX2_trade 27 = .ok (.getfield 190, 3) := by decide +kernel
theorem dX2_trade_30 : decode cX2_trade 30 = .ok (.iload_n 1, 1) := by decide +kernel
theorem dX2_trade_31 : decode cX2_trade 31 = .ok (.iaload, 1) := by decide +kernel
theorem dX2_trade_32 : decode cX2_trade 32 = .ok (.aload_n 0, 1) := by decide +kernel
theorem dX2_trade_33 : decode cX2_trade 33 = .ok (.getfield 35, 3) := by decide +kernel
theorem dX2_trade_36 : decode cX2_trade 36 = .ok (.getfield 187, 3) := by decide +kernel
theorem dX2_trade_39 : decode cX2_trade 39 = .ok (.iload_n 2, 1) := by decide +kernel
theorem dX2_trade_40 : decode cX2_trade 40 = .ok (.iaload, 1) := by decide +kernel
theorem dX2_trade_41 : decode cX2_trade 41 = .ok (.invokevirtual 199, 3) := by decide +kernel
theorem dX2_trade_44 : decode cX2_trade 44 = .ok (.return_, 1) := by decide +kernel
theorem dX2_flightsOf_0 : decode cX2_flightsOf 0 = .ok (.iconst 0, 1) := by decide +kernel
theorem dX2_flightsOf_1 : decode cX2_flightsOf 1 = .ok (.istore_n 2, 1) := by decide +kernel
theorem dX2_flightsOf_2 : decode cX2_flightsOf 2 = .ok (.iconst 0, 1) := by decide +kernel
theorem dX2_flightsOf_3 : decode cX2_flightsOf 3 = .ok (.istore_n 3, 1) := by decide +kernel
theorem dX2_flightsOf_4 : decode cX2_flightsOf 4 = .ok (.iload_n 3, 1) := by decide +kernel
theorem dX2_flightsOf_5 : decode cX2_flightsOf 5 = .ok (.bipush 20, 2) := by decide +kernel
theorem dX2_flightsOf_7 : decode cX2_flightsOf 7 = .ok (.if_icmp .ge 26, 3) := by decide +kernel
theorem dX2_flightsOf_10 : decode cX2_flightsOf 10 = .ok (.iload_n 2, 1) := by decide +kernel
theorem dX2_flightsOf_11 : decode cX2_flightsOf 11 = .ok (.aload_n 0, 1) := by decide +kernel
theorem dX2_flightsOf_12 : decode cX2_flightsOf 12 = .ok (.iload_n 3, 1) := by decide +kernel
theorem dX2_flightsOf_13 : decode cX2_flightsOf 13 = .ok (.iload_n 1, 1) := by decide +kernel
theorem dX2_flightsOf_14 : decode cX2_flightsOf 14 = .ok (.invokevirtual 202, 3) := by decide +kernel
theorem dX2_flightsOf_17 : decode cX2_flightsOf 17 = .ok (.ifCond .eq 7, 3) := by decide +kernel
theorem dX2_flightsOf_20 : decode cX2_flightsOf 20 = .ok (.iconst 1, 1) := by decide +kernel
theorem dX2_flightsOf_21 : decode cX2_flightsOf 21 = .ok (.goto 4, 3) := by decide +kernel
theorem dX2_flightsOf_24 : decode cX2_flightsOf 24 = .ok (.iconst 0, 1) := by decide +kernel
theorem dX2_flightsOf_25 : decode cX2_flightsOf 25 = .ok (.iadd, 1) := by decide +kernel
theorem dX2_flightsOf_26 : decode cX2_flightsOf 26 = .ok (.istore_n 2, 1) := by decide +kernel
theorem dX2_flightsOf_27 : decode cX2_flightsOf 27 = .ok (.iinc 3 1, 3) := by decide +kernel
theorem dX2_flightsOf_30 : decode cX2_flightsOf 30 = .ok (.goto (-26), 3) := by decide +kernel
theorem dX2_flightsOf_33 : decode cX2_flightsOf 33 = .ok (.iload_n 2, 1) := by decide +kernel
theorem dX2_flightsOf_34 : decode cX2_flightsOf 34 = .ok (.ireturn, 1) := by decide +kernel
theorem dX2_seatedOf_0 : decode cX2_seatedOf 0 = .ok (.iconst 0, 1) := by decide +kernel
theorem dX2_seatedOf_1 : decode cX2_seatedOf 1 = .ok (.istore_n 2, 1) := by decide +kernel
theorem dX2_seatedOf_2 : decode cX2_seatedOf 2 = .ok (.iconst 0, 1) := by decide +kernel
theorem dX2_seatedOf_3 : decode cX2_seatedOf 3 = .ok (.istore_n 3, 1) := by decide +kernel
theorem dX2_seatedOf_4 : decode cX2_seatedOf 4 = .ok (.iload_n 3, 1) := by decide +kernel
theorem dX2_seatedOf_5 : decode cX2_seatedOf 5 = .ok (.bipush 20, 2) := by decide +kernel
theorem dX2_seatedOf_7 : decode cX2_seatedOf 7 = .ok (.if_icmp .ge 34, 3) := by decide +kernel
theorem dX2_seatedOf_10 : decode cX2_seatedOf 10 = .ok (.iload_n 2, 1) := by decide +kernel
theorem dX2_seatedOf_11 : decode cX2_seatedOf 11 = .ok (.aload_n 0, 1) := by decide +kernel
theorem dX2_seatedOf_12 : decode cX2_seatedOf 12 = .ok (.iload_n 3, 1) := by decide +kernel
theorem dX2_seatedOf_13 : decode cX2_seatedOf 13 = .ok (.iload_n 1, 1) := by decide +kernel
theorem dX2_seatedOf_14 : decode cX2_seatedOf 14 = .ok (.invokevirtual 202, 3) := by decide +kernel
theorem dX2_seatedOf_17 : decode cX2_seatedOf 17 = .ok (.ifCond .eq 15, 3) := by decide +kernel
theorem dX2_seatedOf_20 : decode cX2_seatedOf 20 = .ok (.aload_n 0, 1) := by decide +kernel
theorem dX2_seatedOf_21 : decode cX2_seatedOf 21 = .ok (.iload_n 3, 1) := by decide +kernel
theorem dX2_seatedOf_22 : decode cX2_seatedOf 22 = .ok (.invokevirtual 126, 3) := by decide +kernel
theorem dX2_seatedOf_25 : decode cX2_seatedOf 25 = .ok (.ifCond .eq 7, 3) := by decide +kernel
theorem dX2_seatedOf_28 : decode cX2_seatedOf 28 = .ok (.iconst 1, 1) := by decide +kernel
theorem dX2_seatedOf_29 : decode cX2_seatedOf 29 = .ok (.goto 4, 3) := by decide +kernel
theorem dX2_seatedOf_32 : decode cX2_seatedOf 32 = .ok (.iconst 0, 1) := by decide +kernel
theorem dX2_seatedOf_33 : decode cX2_seatedOf 33 = .ok (.iadd, 1) := by decide +kernel
theorem dX2_seatedOf_34 : decode cX2_seatedOf 34 = .ok (.istore_n 2, 1) := by decide +kernel
theorem dX2_seatedOf_35 : decode cX2_seatedOf 35 = .ok (.iinc 3 1, 3) := by decide +kernel
theorem dX2_seatedOf_38 : decode cX2_seatedOf 38 = .ok (.goto (-34), 3) := by decide +kernel
theorem dX2_seatedOf_41 : decode cX2_seatedOf 41 = .ok (.iload_n 2, 1) := by decide +kernel
theorem dX2_seatedOf_42 : decode cX2_seatedOf 42 = .ok (.ireturn, 1) := by decide +kernel
theorem dX2_cancelledOf_0 : decode cX2_cancelledOf 0 = .ok (.iconst 0, 1) := by decide +kernel
theorem dX2_cancelledOf_1 : decode cX2_cancelledOf 1 = .ok (.istore_n 2, 1) := by decide +kernel
theorem dX2_cancelledOf_2 : decode cX2_cancelledOf 2 = .ok (.iconst 0, 1) := by decide +kernel
theorem dX2_cancelledOf_3 : decode cX2_cancelledOf 3 = .ok (.istore_n 3, 1) := by decide +kernel
theorem dX2_cancelledOf_4 : decode cX2_cancelledOf 4 = .ok (.iload_n 3, 1) := by decide +kernel
theorem dX2_cancelledOf_5 : decode cX2_cancelledOf 5 = .ok (.bipush 20, 2) := by decide +kernel
theorem dX2_cancelledOf_7 : decode cX2_cancelledOf 7 = .ok (.if_icmp .ge 34, 3) := by decide +kernel
theorem dX2_cancelledOf_10 : decode cX2_cancelledOf 10 = .ok (.iload_n 2, 1) := by decide +kernel
theorem dX2_cancelledOf_11 : decode cX2_cancelledOf 11 = .ok (.aload_n 0, 1) := by decide +kernel
theorem dX2_cancelledOf_12 : decode cX2_cancelledOf 12 = .ok (.iload_n 3, 1) := by decide +kernel
theorem dX2_cancelledOf_13 : decode cX2_cancelledOf 13 = .ok (.iload_n 1, 1) := by decide +kernel
theorem dX2_cancelledOf_14 : decode cX2_cancelledOf 14 = .ok (.invokevirtual 202, 3) := by decide +kernel
theorem dX2_cancelledOf_17 : decode cX2_cancelledOf 17 = .ok (.ifCond .eq 15, 3) := by decide +kernel
theorem dX2_cancelledOf_20 : decode cX2_cancelledOf 20 = .ok (.aload_n 0, 1) := by decide +kernel
theorem dX2_cancelledOf_21 : decode cX2_cancelledOf 21 = .ok (.iload_n 3, 1) := by decide +kernel
theorem dX2_cancelledOf_22 : decode cX2_cancelledOf 22 = .ok (.invokevirtual 205, 3) := by decide +kernel
theorem dX2_cancelledOf_25 : decode cX2_cancelledOf 25 = .ok (.ifCond .eq 7, 3) := by decide +kernel
theorem dX2_cancelledOf_28 : decode cX2_cancelledOf 28 = .ok (.iconst 1, 1) := by decide +kernel
theorem dX2_cancelledOf_29 : decode cX2_cancelledOf 29 = .ok (.goto 4, 3) := by decide +kernel
theorem dX2_cancelledOf_32 : decode cX2_cancelledOf 32 = .ok (.iconst 0, 1) := by decide +kernel
theorem dX2_cancelledOf_33 : decode cX2_cancelledOf 33 = .ok (.iadd, 1) := by decide +kernel
theorem dX2_cancelledOf_34 : decode cX2_cancelledOf 34 = .ok (.istore_n 2, 1) := by decide +kernel
theorem dX2_cancelledOf_35 : decode cX2_cancelledOf 35 = .ok (.iinc 3 1, 3) := by decide +kernel
theorem dX2_cancelledOf_38 : decode cX2_cancelledOf 38 = .ok (.goto (-34), 3) := by decide +kernel
theorem dX2_cancelledOf_41 : decode cX2_cancelledOf 41 = .ok (.iload_n 2, 1) := by decide +kernel
theorem dX2_cancelledOf_42 : decode cX2_cancelledOf 42 = .ok (.ireturn, 1) := by decide +kernel
theorem dX2_aloftOf_0 : decode cX2_aloftOf 0 = .ok (.iconst 0, 1) := by decide +kernel
theorem dX2_aloftOf_1 : decode cX2_aloftOf 1 = .ok (.istore_n 2, 1) := by decide +kernel
theorem dX2_aloftOf_2 : decode cX2_aloftOf 2 = .ok (.iconst 0, 1) := by decide +kernel
theorem dX2_aloftOf_3 : decode cX2_aloftOf 3 = .ok (.istore_n 3, 1) := by decide +kernel
theorem dX2_aloftOf_4 : decode cX2_aloftOf 4 = .ok (.iload_n 3, 1) := by decide +kernel
theorem dX2_aloftOf_5 : decode cX2_aloftOf 5 = .ok (.bipush 20, 2) := by decide +kernel
theorem dX2_aloftOf_7 : decode cX2_aloftOf 7 = .ok (.if_icmp .ge 34, 3) := by decide +kernel
theorem dX2_aloftOf_10 : decode cX2_aloftOf 10 = .ok (.iload_n 2, 1) := by decide +kernel
theorem dX2_aloftOf_11 : decode cX2_aloftOf 11 = .ok (.aload_n 0, 1) := by decide +kernel
theorem dX2_aloftOf_12 : decode cX2_aloftOf 12 = .ok (.iload_n 3, 1) := by decide +kernel
theorem dX2_aloftOf_13 : decode cX2_aloftOf 13 = .ok (.iload_n 1, 1) := by decide +kernel
theorem dX2_aloftOf_14 : decode cX2_aloftOf 14 = .ok (.invokevirtual 202, 3) := by decide +kernel
theorem dX2_aloftOf_17 : decode cX2_aloftOf 17 = .ok (.ifCond .eq 15, 3) := by decide +kernel
theorem dX2_aloftOf_20 : decode cX2_aloftOf 20 = .ok (.aload_n 0, 1) := by decide +kernel
theorem dX2_aloftOf_21 : decode cX2_aloftOf 21 = .ok (.iload_n 3, 1) := by decide +kernel
theorem dX2_aloftOf_22 : decode cX2_aloftOf 22 = .ok (.invokevirtual 208, 3) := by decide +kernel
theorem dX2_aloftOf_25 : decode cX2_aloftOf 25 = .ok (.ifCond .eq 7, 3) := by decide +kernel
theorem dX2_aloftOf_28 : decode cX2_aloftOf 28 = .ok (.iconst 1, 1) := by decide +kernel
theorem dX2_aloftOf_29 : decode cX2_aloftOf 29 = .ok (.goto 4, 3) := by decide +kernel
theorem dX2_aloftOf_32 : decode cX2_aloftOf 32 = .ok (.iconst 0, 1) := by decide +kernel
theorem dX2_aloftOf_33 : decode cX2_aloftOf 33 = .ok (.iadd, 1) := by decide +kernel
theorem dX2_aloftOf_34 : decode cX2_aloftOf 34 = .ok (.istore_n 2, 1) := by decide +kernel
theorem dX2_aloftOf_35 : decode cX2_aloftOf 35 = .ok (.iinc 3 1, 3) := by decide +kernel
theorem dX2_aloftOf_38 : decode cX2_aloftOf 38 = .ok (.goto (-34), 3) := by decide +kernel
theorem dX2_aloftOf_41 : decode cX2_aloftOf 41 = .ok (.iload_n 2, 1) := by decide +kernel
theorem dX2_aloftOf_42 : decode cX2_aloftOf 42 = .ok (.ireturn, 1) := by decide +kernel
theorem dX2_waitsOf_0 : decode cX2_waitsOf 0 = .ok (.iconst 0, 1) := by decide +kernel
theorem dX2_waitsOf_1 : decode cX2_waitsOf 1 = .ok (.istore_n 2, 1) := by decide +kernel
theorem dX2_waitsOf_2 : decode cX2_waitsOf 2 = .ok (.iconst 0, 1) := by decide +kernel
theorem dX2_waitsOf_3 : decode cX2_waitsOf 3 = .ok (.istore_n 3, 1) := by decide +kernel
theorem dX2_waitsOf_4 : decode cX2_waitsOf 4 = .ok (.iload_n 3, 1) := by decide +kernel
theorem dX2_waitsOf_5 : decode cX2_waitsOf 5 = .ok (.bipush 20, 2) := by decide +kernel
theorem dX2_waitsOf_7 : decode cX2_waitsOf 7 = .ok (.if_icmp .ge 38, 3) := by decide +kernel
theorem dX2_waitsOf_10 : decode cX2_waitsOf 10 = .ok (.iload_n 2, 1) := by decide +kernel
theorem dX2_waitsOf_11 : decode cX2_waitsOf 11 = .ok (.aload_n 0, 1) := by decide +kernel
theorem dX2_waitsOf_12 : decode cX2_waitsOf 12 = .ok (.iload_n 3, 1) := by decide +kernel
theorem dX2_waitsOf_13 : decode cX2_waitsOf 13 = .ok (.iload_n 1, 1) := by decide +kernel
theorem dX2_waitsOf_14 : decode cX2_waitsOf 14 = .ok (.invokevirtual 202, 3) := by decide +kernel
theorem dX2_waitsOf_17 : decode cX2_waitsOf 17 = .ok (.ifCond .eq 19, 3) := by decide +kernel
theorem dX2_waitsOf_20 : decode cX2_waitsOf 20 = .ok (.aload_n 0, 1) := by decide +kernel
theorem dX2_waitsOf_21 : decode cX2_waitsOf 21 = .ok (.iload_n 3, 1) := by decide +kernel
theorem dX2_waitsOf_22 : decode cX2_waitsOf 22 = .ok (.invokevirtual 126, 3) := by decide +kernel
theorem dX2_waitsOf_25 : decode cX2_waitsOf 25 = .ok (.ifCond .eq 11, 3) := by decide +kernel
theorem dX2_waitsOf_28 : decode cX2_waitsOf 28 = .ok (.aload_n 0, 1) := by decide +kernel
theorem dX2_waitsOf_29 : decode cX2_waitsOf 29 = .ok (.iload_n 3, 1) := by decide +kernel
theorem dX2_waitsOf_30 : decode cX2_waitsOf 30 = .ok (.invokevirtual 211, 3) := by decide +kernel
theorem dX2_waitsOf_33 : decode cX2_waitsOf 33 = .ok (.goto 4, 3) := by decide +kernel
theorem dX2_waitsOf_36 : decode cX2_waitsOf 36 = .ok (.iconst 0, 1) := by decide +kernel
theorem dX2_waitsOf_37 : decode cX2_waitsOf 37 = .ok (.iadd, 1) := by decide +kernel
theorem dX2_waitsOf_38 : decode cX2_waitsOf 38 = .ok (.istore_n 2, 1) := by decide +kernel
theorem dX2_waitsOf_39 : decode cX2_waitsOf 39 = .ok (.iinc 3 1, 3) := by decide +kernel
theorem dX2_waitsOf_42 : decode cX2_waitsOf 42 = .ok (.goto (-38), 3) := by decide +kernel
theorem dX2_waitsOf_45 : decode cX2_waitsOf 45 = .ok (.iload_n 2, 1) := by decide +kernel
theorem dX2_waitsOf_46 : decode cX2_waitsOf 46 = .ok (.ireturn, 1) := by decide +kernel
theorem dX2_longestWaitOf_0 : decode cX2_longestWaitOf 0 = .ok (.iconst 0, 1) := by decide +kernel
theorem dX2_longestWaitOf_1 : decode cX2_longestWaitOf 1 = .ok (.istore_n 2, 1) := by decide +kernel
theorem dX2_longestWaitOf_2 : decode cX2_longestWaitOf 2 = .ok (.iconst 0, 1) := by decide +kernel
theorem dX2_longestWaitOf_3 : decode cX2_longestWaitOf 3 = .ok (.istore_n 3, 1) := by decide +kernel
theorem dX2_longestWaitOf_4 : decode cX2_longestWaitOf 4 = .ok (.iload_n 3, 1) := by decide +kernel
theorem dX2_longestWaitOf_5 : decode cX2_longestWaitOf 5 = .ok (.bipush 20, 2) := by decide +kernel
theorem dX2_longestWaitOf_7 : decode cX2_longestWaitOf 7 = .ok (.if_icmp .ge 36, 3) := by decide +kernel
theorem dX2_longestWaitOf_10 : decode cX2_longestWaitOf 10 = .ok (.aload_n 0, 1) := by decide +kernel
theorem dX2_longestWaitOf_11 : decode cX2_longestWaitOf 11 = .ok (.iload_n 3, 1) := by decide +kernel
theorem dX2_longestWaitOf_12 : decode cX2_longestWaitOf 12 = .ok (.iload_n 1, 1) := by decide +kernel
theorem dX2_longestWaitOf_13 : decode cX2_longestWaitOf 13 = .ok (.invokevirtual 202, 3) := by decide +kernel
theorem dX2_longestWaitOf_16 : decode cX2_longestWaitOf 16 = .ok (.ifCond .eq 21, 3) := by decide +kernel
theorem dX2_longestWaitOf_19 : decode cX2_longestWaitOf 19 = .ok (.aload_n 0, 1) := by decide +kernel
theorem dX2_longestWaitOf_20 : decode cX2_longestWaitOf 20 = .ok (.iload_n 3, 1) := by decide +kernel
theorem dX2_longestWaitOf_21 : decode cX2_longestWaitOf 21 = .ok (.invokevirtual 126, 3) := by decide +kernel
theorem dX2_longestWaitOf_24 : decode cX2_longestWaitOf 24 = .ok (.ifCond .eq 13, 3) := by decide +kernel
theorem dX2_longestWaitOf_27 : decode cX2_longestWaitOf 27 = .ok (.iload_n 2, 1) := by decide +kernel
theorem dX2_longestWaitOf_28 : decode cX2_longestWaitOf 28 = .ok (.aload_n 0, 1) := by decide +kernel
theorem dX2_longestWaitOf_29 : decode cX2_longestWaitOf 29 = .ok (.iload_n 3, 1) := by decide +kernel
theorem dX2_longestWaitOf_30 : decode cX2_longestWaitOf 30 = .ok (.invokevirtual 211, 3) := by decide +kernel
theorem dX2_longestWaitOf_33 : decode cX2_longestWaitOf 33 = .ok (.invokestatic 120, 3) := by decide +kernel
theorem dX2_longestWaitOf_36 : decode cX2_longestWaitOf 36 = .ok (.istore_n 2, 1) := by decide +kernel
theorem dX2_longestWaitOf_37 : decode cX2_longestWaitOf 37 = .ok (.iinc 3 1, 3) := by decide +kernel
theorem dX2_longestWaitOf_40 : decode cX2_longestWaitOf 40 = .ok (.goto (-36), 3) := by decide +kernel
theorem dX2_longestWaitOf_43 : decode cX2_longestWaitOf 43 = .ok (.iload_n 2, 1) := by decide +kernel
theorem dX2_longestWaitOf_44 : decode cX2_longestWaitOf 44 = .ok (.ireturn, 1) := by decide +kernel
theorem dX2_lineCost_0 : decode cX2_lineCost 0 = .ok (.iconst 0, 1) := by decide +kernel
theorem dX2_lineCost_1 : decode cX2_lineCost 1 = .ok (.istore_n 2, 1) := by decide +kernel
theorem dX2_lineCost_2 : decode cX2_lineCost 2 = .ok (.iconst 0, 1) := by decide +kernel
theorem dX2_lineCost_3 : decode cX2_lineCost 3 = .ok (.istore_n 3, 1) := by decide +kernel
theorem dX2_lineCost_4 : decode cX2_lineCost 4 = .ok (.iload_n 3, 1) := by decide +kernel
theorem dX2_lineCost_5 : decode cX2_lineCost 5 = .ok (.bipush 20, 2) := by decide +kernel
theorem dX2_lineCost_7 : decode cX2_lineCost 7 = .ok (.if_icmp .ge 38, 3) := by decide +kernel
theorem dX2_lineCost_10 : decode cX2_lineCost 10 = .ok (.iload_n 2, 1) := by decide +kernel
theorem dX2_lineCost_11 : decode cX2_lineCost 11 = .ok (.aload_n 0, 1) := by decide +kernel
theorem dX2_lineCost_12 : decode cX2_lineCost 12 = .ok (.iload_n 3, 1) := by decide +kernel
theorem dX2_lineCost_13 : decode cX2_lineCost 13 = .ok (.iload_n 1, 1) := by decide +kernel
theorem dX2_lineCost_14 : decode cX2_lineCost 14 = .ok (.invokevirtual 202, 3) := by decide +kernel
theorem dX2_lineCost_17 : decode cX2_lineCost 17 = .ok (.ifCond .eq 19, 3) := by decide +kernel
theorem dX2_lineCost_20 : decode cX2_lineCost 20 = .ok (.aload_n 0, 1) := by decide +kernel
theorem dX2_lineCost_21 : decode cX2_lineCost 21 = .ok (.iload_n 3, 1) := by decide +kernel
theorem dX2_lineCost_22 : decode cX2_lineCost 22 = .ok (.invokevirtual 126, 3) := by decide +kernel
theorem dX2_lineCost_25 : decode cX2_lineCost 25 = .ok (.ifCond .eq 11, 3) := by decide +kernel
theorem dX2_lineCost_28 : decode cX2_lineCost 28 = .ok (.aload_n 0, 1) := by decide +kernel
theorem dX2_lineCost_29 : decode cX2_lineCost 29 = .ok (.iload_n 3, 1) := by decide +kernel
theorem dX2_lineCost_30 : decode cX2_lineCost 30 = .ok (.invokevirtual 214, 3) := by decide +kernel
theorem dX2_lineCost_33 : decode cX2_lineCost 33 = .ok (.goto 4, 3) := by decide +kernel
theorem dX2_lineCost_36 : decode cX2_lineCost 36 = .ok (.iconst 0, 1) := by decide +kernel
theorem dX2_lineCost_37 : decode cX2_lineCost 37 = .ok (.iadd, 1) := by decide +kernel
theorem dX2_lineCost_38 : decode cX2_lineCost 38 = .ok (.istore_n 2, 1) := by decide +kernel
theorem dX2_lineCost_39 : decode cX2_lineCost 39 = .ok (.iinc 3 1, 3) := by decide +kernel
theorem dX2_lineCost_42 : decode cX2_lineCost 42 = .ok (.goto (-38), 3) := by decide +kernel
theorem dX2_lineCost_45 : decode cX2_lineCost 45 = .ok (.iload_n 2, 1) := by decide +kernel
theorem dX2_lineCost_46 : decode cX2_lineCost 46 = .ok (.ireturn, 1) := by decide +kernel
theorem dX2_linesAhead_0 : decode cX2_linesAhead 0 = .ok (.aload_n 0, 1) := by decide +kernel
theorem dX2_linesAhead_1 : decode cX2_linesAhead 1 = .ok (.iload_n 1, 1) := by decide +kernel
theorem dX2_linesAhead_2 : decode cX2_linesAhead 2 = .ok (.invokevirtual 217, 3) := by decide +kernel
theorem dX2_linesAhead_5 : decode cX2_linesAhead 5 = .ok (.istore_n 2, 1) := by decide +kernel
theorem dX2_linesAhead_6 : decode cX2_linesAhead 6 = .ok (.aload_n 0, 1) := by decide +kernel
theorem dX2_linesAhead_7 : decode cX2_linesAhead 7 = .ok (.iload_n 1, 1) := by decide +kernel
theorem dX2_linesAhead_8 : decode cX2_linesAhead 8 = .ok (.invokevirtual 220, 3) := by decide +kernel
theorem dX2_linesAhead_11 : decode cX2_linesAhead 11 = .ok (.istore_n 3, 1) := by decide +kernel
theorem dX2_linesAhead_12 : decode cX2_linesAhead 12 = .ok (.iconst 0, 1) := by decide +kernel
theorem dX2_linesAhead_13 : decode cX2_linesAhead 13 = .ok (.istore 4, 2) := by decide +kernel
theorem dX2_linesAhead_15 : decode cX2_linesAhead 15 = .ok (.iconst 0, 1) := by decide +kernel
theorem dX2_linesAhead_16 : decode cX2_linesAhead 16 = .ok (.istore 5, 2) := by decide +kernel
theorem dX2_linesAhead_18 : decode cX2_linesAhead 18 = .ok (.iload 5, 2) := by decide +kernel
theorem dX2_linesAhead_20 : decode cX2_linesAhead 20 = .ok (.iconst 5, 1) := by decide +kernel
theorem dX2_linesAhead_21 : decode cX2_linesAhead 21 = .ok (.if_icmp .ge 65, 3) := by decide +kernel
theorem dX2_linesAhead_24 : decode cX2_linesAhead 24 = .ok (.aload_n 0, 1) := by decide +kernel
theorem dX2_linesAhead_25 : decode cX2_linesAhead 25 = .ok (.iload 5, 2) := by decide +kernel
theorem dX2_linesAhead_27 : decode cX2_linesAhead 27 = .ok (.invokevirtual 220, 3) := by decide +kernel
theorem dX2_linesAhead_30 : decode cX2_linesAhead 30 = .ok (.istore 6, 2) := by decide +kernel
theorem dX2_linesAhead_32 : decode cX2_linesAhead 32 = .ok (.iload 5, 2) := by decide +kernel
theorem dX2_linesAhead_34 : decode cX2_linesAhead 34 = .ok (.iload_n 1, 1) := by decide +kernel
theorem dX2_linesAhead_35 : decode cX2_linesAhead 35 = .ok (.if_icmp .eq 45, 3) := by decide +kernel
theorem dX2_linesAhead_38 : decode cX2_linesAhead 38 = .ok (.iload 6, 2) := by decide +kernel
theorem dX2_linesAhead_40 : decode cX2_linesAhead 40 = .ok (.ifCond .ne 6, 3) := by decide +kernel
theorem dX2_linesAhead_43 : decode cX2_linesAhead 43 = .ok (.goto 37, 3) := by decide +kernel
theorem dX2_linesAhead_46 : decode cX2_linesAhead 46 = .ok (.aload_n 0, 1) := by decide +kernel
theorem dX2_linesAhead_47 : decode cX2_linesAhead 47 = .ok (.iload 5, 2) := by decide +kernel
theorem dX2_linesAhead_49 : decode cX2_linesAhead 49 = .ok (.invokevirtual 217, 3) := by decide +kernel
theorem dX2_linesAhead_52 : decode cX2_linesAhead 52 = .ok (.iload_n 3, 1) := by decide +kernel
theorem dX2_linesAhead_53 : decode cX2_linesAhead 53 = .ok (.imul, 1) := by decide +kernel
theorem dX2_linesAhead_54 : decode cX2_linesAhead 54 = .ok (.iload_n 2, 1) := by decide +kernel
theorem dX2_linesAhead_55 : decode cX2_linesAhead 55 = .ok (.iload 6, 2) := by decide +kernel
theorem dX2_linesAhead_57 : decode cX2_linesAhead 57 = .ok (.imul, 1) := by decide +kernel
theorem dX2_linesAhead_58 : decode cX2_linesAhead 58 = .ok (.isub, 1) := by decide +kernel
theorem dX2_linesAhead_59 : decode cX2_linesAhead 59 = .ok (.istore 7, 2) := by decide +kernel
theorem dX2_linesAhead_61 : decode cX2_linesAhead 61 = .ok (.iload 7, 2) := by decide +kernel
theorem dX2_linesAhead_63 : decode cX2_linesAhead 63 = .ok (.ifCond .gt 14, 3) := by decide +kernel
theorem dX2_linesAhead_66 : decode cX2_linesAhead 66 = .ok (.iload 7, 2) := by decide +kernel
theorem dX2_linesAhead_68 : decode cX2_linesAhead 68 = .ok (.ifCond .ne 12, 3) := by decide +kernel
theorem dX2_linesAhead_71 : decode cX2_linesAhead 71 = .ok (.iload 5, 2) := by decide +kernel
theorem dX2_linesAhead_73 : decode cX2_linesAhead 73 = .ok (.iload_n 1, 1) := by decide +kernel
theorem dX2_linesAhead_74 : decode cX2_linesAhead 74 = .ok (.if_icmp .ge 6, 3) := by decide +kernel
theorem dX2_linesAhead_77 : decode cX2_linesAhead 77 = .ok (.iinc 4 1, 3) := by decide +kernel
theorem dX2_linesAhead_80 : decode cX2_linesAhead 80 = .ok (.iinc 5 1, 3) := by decide +kernel
theorem dX2_linesAhead_83 : decode cX2_linesAhead 83 = .ok (.goto (-65), 3) := by decide +kernel
theorem dX2_linesAhead_86 : decode cX2_linesAhead 86 = .ok (.iload 4, 2) := by decide +kernel
theorem dX2_linesAhead_88 : decode cX2_linesAhead 88 = .ok (.ireturn, 1) := by decide +kernel
theorem dX2_unfairness_0 : decode cX2_unfairness 0 = .ok (.iconst (-1), 1) := by decide +kernel
theorem dX2_unfairness_1 : decode cX2_unfairness 1 = .ok (.istore_n 1, 1) := by decide +kernel
theorem dX2_unfairness_2 : decode cX2_unfairness 2 = .ok (.iconst (-1), 1) := by decide +kernel
theorem dX2_unfairness_3 : decode cX2_unfairness 3 = .ok (.istore_n 2, 1) := by decide +kernel
theorem dX2_unfairness_4 : decode cX2_unfairness 4 = .ok (.iconst 0, 1) := by decide +kernel
theorem dX2_unfairness_5 : decode cX2_unfairness 5 = .ok (.istore_n 3, 1) := by decide +kernel
theorem dX2_unfairness_6 : decode cX2_unfairness 6 = .ok (.iload_n 3, 1) := by decide +kernel
theorem dX2_unfairness_7 : decode cX2_unfairness 7 = .ok (.iconst 5, 1) := by decide +kernel
theorem dX2_unfairness_8 : decode cX2_unfairness 8 = .ok (.if_icmp .ge 71, 3) := by decide +kernel
theorem dX2_unfairness_11 : decode cX2_unfairness 11 = .ok (.aload_n 0, 1) := by decide +kernel
theorem dX2_unfairness_12 : decode cX2_unfairness 12 = .ok (.iload_n 3, 1) := by decide +kernel
theorem dX2_unfairness_13 : decode cX2_unfairness 13 = .ok (.invokevirtual 220, 3) := by decide +kernel
theorem dX2_unfairness_16 : decode cX2_unfairness 16 = .ok (.istore 4, 2) := by decide +kernel
theorem dX2_unfairness_18 : decode cX2_unfairness 18 = .ok (.iload 4, 2) := by decide +kernel
theorem dX2_unfairness_20 : decode cX2_unfairness 20 = .ok (.ifCond .gt 6, 3) := by decide +kernel
theorem dX2_unfairness_23 : decode cX2_unfairness 23 = .ok (.goto 50, 3) := by decide +kernel
theorem dX2_unfairness_26 : decode cX2_unfairness 26 = .ok (.aload_n 0, 1) := by decide +kernel
theorem dX2_unfairness_27 : decode cX2_unfairness 27 = .ok (.iload_n 3, 1) := by decide +kernel
theorem dX2_unfairness_28 : decode cX2_unfairness 28 = .ok (.invokevirtual 217, 3) := by decide +kernel
theorem dX2_unfairness_31 : decode cX2_unfairness 31 = .ok (.bipush 100, 2) := by decide +kernel
theorem dX2_unfairness_33 : decode cX2_unfairness 33 = .ok (.imul, 1) := by decide +kernel
theorem dX2_unfairness_34 : decode cX2_unfairness 34 = .ok (.iload 4, 2) := by decide +kernel
theorem dX2_unfairness_36 : decode cX2_unfairness 36 = .ok (.idiv, 1) := by decide +kernel
theorem dX2_unfairness_37 : decode cX2_unfairness 37 = .ok (.istore 5, 2) := by decide +kernel
theorem dX2_unfairness_39 : decode cX2_unfairness 39 = .ok (.iload_n 1, 1) := by decide +kernel
theorem dX2_unfairness_40 : decode cX2_unfairness 40 = .ok (.iconst (-1), 1) := by decide +kernel
theorem dX2_unfairness_41 : decode cX2_unfairness 41 = .ok (.if_icmp .ne 8, 3) := by decide +kernel
theorem dX2_unfairness_44 : decode cX2_unfairness 44 = .ok (.iload 5, 2) := by decide +kernel
theorem dX2_unfairness_46 : decode cX2_unfairness 46 = .ok (.goto 9, 3) := by decide +kernel
theorem dX2_unfairness_49 : decode cX2_unfairness 49 = .ok (.iload_n 1, 1) := by decide +kernel
theorem dX2_unfairness_50 : decode cX2_unfairness 50 = .ok (.iload 5, 2) := by decide +kernel
theorem dX2_unfairness_52 : decode cX2_unfairness 52 = .ok (.invokestatic 120, 3) := by decide +kernel
theorem dX2_unfairness_55 : decode cX2_unfairness 55 = .ok (.istore_n 1, 1) := by decide +kernel
theorem dX2_unfairness_56 : decode cX2_unfairness 56 = .ok (.iload_n 2, 1) := by decide +kernel
theorem dX2_unfairness_57 : decode cX2_unfairness 57 = .ok (.iconst (-1), 1) := by decide +kernel
theorem dX2_unfairness_58 : decode cX2_unfairness 58 = .ok (.if_icmp .ne 8, 3) := by decide +kernel
theorem dX2_unfairness_61 : decode cX2_unfairness 61 = .ok (.iload 5, 2) := by decide +kernel
theorem dX2_unfairness_63 : decode cX2_unfairness 63 = .ok (.goto 9, 3) := by decide +kernel
theorem dX2_unfairness_66 : decode cX2_unfairness 66 = .ok (.iload_n 2, 1) := by decide +kernel
theorem dX2_unfairness_67 : decode cX2_unfairness 67 = .ok (.iload 5, 2) := by decide +kernel
theorem dX2_unfairness_69 : decode cX2_unfairness 69 = .ok (.invokestatic 223, 3) := by decide +kernel
theorem dX2_unfairness_72 : decode cX2_unfairness 72 = .ok (.istore_n 2, 1) := by decide +kernel
theorem dX2_unfairness_73 : decode cX2_unfairness 73 = .ok (.iinc 3 1, 3) := by decide +kernel
theorem dX2_unfairness_76 : decode cX2_unfairness 76 = .ok (.goto (-70), 3) := by decide +kernel
theorem dX2_unfairness_79 : decode cX2_unfairness 79 = .ok (.iload_n 1, 1) := by decide +kernel
theorem dX2_unfairness_80 : decode cX2_unfairness 80 = .ok (.iconst (-1), 1) := by decide +kernel
theorem dX2_unfairness_81 : decode cX2_unfairness 81 = .ok (.if_icmp .ne 8, 3) := by decide +kernel
theorem dX2_unfairness_84 : decode cX2_unfairness 84 = .ok (.bipush (-2), 2) := by decide +kernel
theorem dX2_unfairness_86 : decode cX2_unfairness 86 = .ok (.goto 6, 3) := by decide +kernel
theorem dX2_unfairness_89 : decode cX2_unfairness 89 = .ok (.iload_n 1, 1) := by decide +kernel
theorem dX2_unfairness_90 : decode cX2_unfairness 90 = .ok (.iload_n 2, 1) := by decide +kernel
theorem dX2_unfairness_91 : decode cX2_unfairness 91 = .ok (.isub, 1) := by decide +kernel
theorem dX2_unfairness_92 : decode cX2_unfairness 92 = .ok (.ireturn, 1) := by decide +kernel
theorem dX2_lackOf_0 : decode cX2_lackOf 0 = .ok (.aload_n 0, 1) := by decide +kernel
theorem dX2_lackOf_1 : decode cX2_lackOf 1 = .ok (.getfield 42, 3) := by decide +kernel
theorem dX2_lackOf_4 : decode cX2_lackOf 4 = .ok (.iload_n 1, 1) := by decide +kernel
theorem dX2_lackOf_5 : decode cX2_lackOf 5 = .ok (.invokevirtual 226, 3) := by decide +kernel
theorem dX2_lackOf_8 : decode cX2_lackOf 8 = .ok (.ifCond .ne 6, 3) := by decide +kernel
theorem dX2_lackOf_11 : decode cX2_lackOf 11 = .ok (.bipush (-2), 2) := by decide +kernel
theorem dX2_lackOf_13 : decode cX2_lackOf 13 = .ok (.ireturn, 1) := by decide +kernel
theorem dX2_lackOf_14 : decode cX2_lackOf 14 = .ok (.aload_n 0, 1) := by decide +kernel
theorem dX2_lackOf_15 : decode cX2_lackOf 15 = .ok (.getfield 42, 3) := by decide +kernel
theorem dX2_lackOf_18 : decode cX2_lackOf 18 = .ok (.getfield 227, 3) := by decide +kernel
theorem dX2_lackOf_21 : decode cX2_lackOf 21 = .ok (.iload_n 1, 1) := by decide +kernel
theorem dX2_lackOf_22 : decode cX2_lackOf 22 = .ok (.iaload, 1) := by decide +kernel
theorem dX2_lackOf_23 : decode cX2_lackOf 23 = .ok (.istore_n 2, 1) := by decide +kernel
theorem dX2_lackOf_24 : decode cX2_lackOf 24 = .ok (.aload_n 0, 1) := by decide +kernel
theorem dX2_lackOf_25 : decode cX2_lackOf 25 = .ok (.getfield 42, 3) := by decide +kernel
theorem dX2_lackOf_28 : decode cX2_lackOf 28 = .ok (.getfield 230, 3) := by decide +kernel
theorem dX2_lackOf_31 : decode cX2_lackOf 31 = .ok (.iload_n 1, 1) := by decide +kernel
theorem dX2_lackOf_32 : decode cX2_lackOf 32 = .ok (.iaload, 1) := by decide +kernel
theorem dX2_lackOf_33 : decode cX2_lackOf 33 = .ok (.istore_n 3, 1) := by decide +kernel
theorem dX2_lackOf_34 : decode cX2_lackOf 34 = .ok (.aload_n 0, 1) := by decide +kernel
theorem dX2_lackOf_35 : decode cX2_lackOf 35 = .ok (.iload_n 2, 1) := by decide +kernel
theorem dX2_lackOf_36 : decode cX2_lackOf 36 = .ok (.invokevirtual 126, 3) := by decide +kernel
theorem dX2_lackOf_39 : decode cX2_lackOf 39 = .ok (.ifCond .eq 11, 3) := by decide +kernel
theorem dX2_lackOf_42 : decode cX2_lackOf 42 = .ok (.aload_n 0, 1) := by decide +kernel
theorem dX2_lackOf_43 : decode cX2_lackOf 43 = .ok (.iload_n 3, 1) := by decide +kernel
theorem dX2_lackOf_44 : decode cX2_lackOf 44 = .ok (.invokevirtual 126, 3) := by decide +kernel
theorem dX2_lackOf_47 : decode cX2_lackOf 47 = .ok (.ifCond .ne 6, 3) := by decide +kernel
theorem dX2_lackOf_50 : decode cX2_lackOf 50 = .ok (.bipush (-2), 2) := by decide +kernel
theorem dX2_lackOf_52 : decode cX2_lackOf 52 = .ok (.ireturn, 1) := by decide +kernel
theorem dX2_lackOf_53 : decode cX2_lackOf 53 = .ok (.iconst 0, 1) := by decide +kernel
theorem dX2_lackOf_54 : decode cX2_lackOf 54 = .ok (.aload_n 0, 1) := by decide +kernel
theorem dX2_lackOf_55 : decode cX2_lackOf 55 = .ok (.getfield 46, 3) := by decide +kernel
theorem dX2_lackOf_58 : decode cX2_lackOf 58 = .ok (.iload_n 2, 1) := by decide +kernel
theorem dX2_lackOf_59 : decode cX2_lackOf 59 = .ok (.iaload, 1) := by decide +kernel
theorem dX2_lackOf_60 : decode cX2_lackOf 60 = .ok (.aload_n 0, 1) := by decide +kernel
theorem dX2_lackOf_61 : decode cX2_lackOf 61 = .ok (.getfield 42, 3) := by decide +kernel
theorem dX2_lackOf_64 : decode cX2_lackOf 64 = .ok (.getfield 233, 3) := by decide +kernel
theorem dX2_lackOf_67 : decode cX2_lackOf 67 = .ok (.iload_n 1, 1) := by decide +kernel
theorem dX2_lackOf_68 : decode cX2_lackOf 68 = .ok (.iaload, 1) := by decide +kernel
theorem dX2_lackOf_69 : decode cX2_lackOf 69 = .ok (.iadd, 1) := by decide +kernel
theorem dX2_lackOf_70 : decode cX2_lackOf 70 = .ok (.aload_n 0, 1) := by decide +kernel
theorem dX2_lackOf_71 : decode cX2_lackOf 71 = .ok (.iload_n 3, 1) := by decide +kernel
theorem dX2_lackOf_72 : decode cX2_lackOf 72 = .ok (.invokevirtual 129, 3) := by decide +kernel
theorem dX2_lackOf_75 : decode cX2_lackOf 75 = .ok (.isub, 1) := by decide +kernel
theorem dX2_lackOf_76 : decode cX2_lackOf 76 = .ok (.invokestatic 120, 3) := by decide +kernel
theorem dX2_lackOf_79 : decode cX2_lackOf 79 = .ok (.ireturn, 1) := by decide +kernel
theorem dX2_countBroken_0 : decode cX2_countBroken 0 = .ok (.iconst 0, 1) := by decide +kernel
theorem dX2_countBroken_1 : decode cX2_countBroken 1 = .ok (.istore_n 1, 1) := by decide +kernel
theorem dX2_countBroken_2 : decode cX2_countBroken 2 = .ok (.iconst 0, 1) := by decide +kernel
theorem dX2_countBroken_3 : decode cX2_countBroken 3 = .ok (.istore_n 2, 1) := by decide +kernel
theorem dX2_countBroken_4 : decode cX2_countBroken 4 = .ok (.iload_n 2, 1) := by decide +kernel
theorem dX2_countBroken_5 : decode cX2_countBroken 5 = .ok (.aload_n 0, 1) := by decide +kernel
theorem dX2_countBroken_6 : decode cX2_countBroken 6 = .ok (.getfield 42, 3) := by decide +kernel
theorem dX2_countBroken_9 : decode cX2_countBroken 9 = .ok (.getfield 92, 3) := by decide +kernel
theorem dX2_countBroken_12 : decode cX2_countBroken 12 = .ok (.if_icmp .ge 25, 3) := by decide +kernel
theorem dX2_countBroken_15 : decode cX2_countBroken 15 = .ok (.iload_n 1, 1) := by decide +kernel
theorem dX2_countBroken_16 : decode cX2_countBroken 16 = .ok (.aload_n 0, 1) := by decide +kernel
theorem dX2_countBroken_17 : decode cX2_countBroken 17 = .ok (.iload_n 2, 1) := by decide +kernel
theorem dX2_countBroken_18 : decode cX2_countBroken 18 = .ok (.invokevirtual 236, 3) := by decide +kernel
theorem dX2_countBroken_21 : decode cX2_countBroken 21 = .ok (.ifCond .ne 7, 3) := by decide +kernel
theorem dX2_countBroken_24 : decode cX2_countBroken 24 = .ok (.iconst 0, 1) := by decide +kernel
theorem dX2_countBroken_25 : decode cX2_countBroken 25 = .ok (.goto 4, 3) := by decide +kernel
theorem dX2_countBroken_28 : decode cX2_countBroken 28 = .ok (.iconst 1, 1) := by decide +kernel
theorem dX2_countBroken_29 : decode cX2_countBroken 29 = .ok (.iadd, 1) := by decide +kernel
theorem dX2_countBroken_30 : decode cX2_countBroken 30 = .ok (.istore_n 1, 1) := by decide +kernel
theorem dX2_countBroken_31 : decode cX2_countBroken 31 = .ok (.iinc 2 1, 3) := by decide +kernel
theorem dX2_countBroken_34 : decode cX2_countBroken 34 = .ok (.goto (-30), 3) := by decide +kernel
theorem dX2_countBroken_37 : decode cX2_countBroken 37 = .ok (.iload_n 1, 1) := by decide +kernel
theorem dX2_countBroken_38 : decode cX2_countBroken 38 = .ok (.ireturn, 1) := by decide +kernel
theorem dX2_countWaiting_0 : decode cX2_countWaiting 0 = .ok (.iconst 0, 1) := by decide +kernel
theorem dX2_countWaiting_1 : decode cX2_countWaiting 1 = .ok (.istore_n 1, 1) := by decide +kernel
theorem dX2_countWaiting_2 : decode cX2_countWaiting 2 = .ok (.iconst 0, 1) := by decide +kernel
theorem dX2_countWaiting_3 : decode cX2_countWaiting 3 = .ok (.istore_n 2, 1) := by decide +kernel
theorem dX2_countWaiting_4 : decode cX2_countWaiting 4 = .ok (.iload_n 2, 1) := by decide +kernel
theorem dX2_countWaiting_5 : decode cX2_countWaiting 5 = .ok (.bipush 20, 2) := by decide +kernel
theorem dX2_countWaiting_7 : decode cX2_countWaiting 7 = .ok (.if_icmp .ge 33, 3) := by decide +kernel
theorem dX2_countWaiting_10 : decode cX2_countWaiting 10 = .ok (.iload_n 1, 1) := by decide +kernel
theorem dX2_countWaiting_11 : decode cX2_countWaiting 11 = .ok (.aload_n 0, 1) := by decide +kernel
theorem dX2_countWaiting_12 : decode cX2_countWaiting 12 = .ok (.iload_n 2, 1) := by decide +kernel
theorem dX2_countWaiting_13 : decode cX2_countWaiting 13 = .ok (.invokevirtual 126, 3) := by decide +kernel
theorem dX2_countWaiting_16 : decode cX2_countWaiting 16 = .ok (.ifCond .eq 15, 3) := by decide +kernel
theorem dX2_countWaiting_19 : decode cX2_countWaiting 19 = .ok (.aload_n 0, 1) := by decide +kernel
theorem dX2_countWaiting_20 : decode cX2_countWaiting 20 = .ok (.iload_n 2, 1) := by decide +kernel
theorem dX2_countWaiting_21 : decode cX2_countWaiting 21 = .ok (.invokevirtual 211, 3) := by decide +kernel
theorem dX2_countWaiting_24 : decode cX2_countWaiting 24 = .ok (.ifCond .le 7, 3) := by decide +kernel
theorem dX2_countWaiting_27 : decode cX2_countWaiting 27 = .ok (.iconst 1, 1) := by decide +kernel
theorem dX2_countWaiting_28 : decode cX2_countWaiting 28 = .ok (.goto 4, 3) := by decide +kernel
theorem dX2_countWaiting_31 : decode cX2_countWaiting 31 = .ok (.iconst 0, 1) := by decide +kernel
theorem dX2_countWaiting_32 : decode cX2_countWaiting 32 = .ok (.iadd, 1) := by decide +kernel
theorem dX2_countWaiting_33 : decode cX2_countWaiting 33 = .ok (.istore_n 1, 1) := by decide +kernel
theorem dX2_countWaiting_34 : decode cX2_countWaiting 34 = .ok (.iinc 2 1, 3) := by decide +kernel
theorem dX2_countWaiting_37 : decode cX2_countWaiting 37 = .ok (.goto (-33), 3) := by decide +kernel
theorem dX2_countWaiting_40 : decode cX2_countWaiting 40 = .ok (.iload_n 1, 1) := by decide +kernel
theorem dX2_countWaiting_41 : decode cX2_countWaiting 41 = .ok (.ireturn, 1) := by decide +kernel
theorem dX2_countCancelled_0 : decode cX2_countCancelled 0 = .ok (.aload_n 0, 1) := by decide +kernel
theorem dX2_countCancelled_1 : decode cX2_countCancelled 1 = .ok (.getfield 78, 3) := by decide +kernel
theorem dX2_countCancelled_4 : decode cX2_countCancelled 4 = .ok (.invokestatic 239, 3) := by decide +kernel
theorem dX2_countCancelled_7 : decode cX2_countCancelled 7 = .ok (.ireturn, 1) := by decide +kernel
theorem dX2_totalHold_0 : decode cX2_totalHold 0 = .ok (.iconst 0, 1) := by decide +kernel
theorem dX2_totalHold_1 : decode cX2_totalHold 1 = .ok (.istore_n 1, 1) := by decide +kernel
theorem dX2_totalHold_2 : decode cX2_totalHold 2 = .ok (.iconst 0, 1) := by decide +kernel
theorem dX2_totalHold_3 : decode cX2_totalHold 3 = .ok (.istore_n 2, 1) := by decide +kernel
theorem dX2_totalHold_4 : decode cX2_totalHold 4 = .ok (.iload_n 2, 1) := by decide +kernel
theorem dX2_totalHold_5 : decode cX2_totalHold 5 = .ok (.bipush 20, 2) := by decide +kernel
theorem dX2_totalHold_7 : decode cX2_totalHold 7 = .ok (.if_icmp .ge 30, 3) := by decide +kernel
theorem dX2_totalHold_10 : decode cX2_totalHold 10 = .ok (.iload_n 1, 1) := by decide +kernel
theorem dX2_totalHold_11 : decode cX2_totalHold 11 = .ok (.aload_n 0, 1) := by decide +kernel
theorem dX2_totalHold_12 : decode cX2_totalHold 12 = .ok (.iload_n 2, 1) := by decide +kernel
theorem dX2_totalHold_13 : decode cX2_totalHold 13 = .ok (.invokevirtual 126, 3) := by decide +kernel
theorem dX2_totalHold_16 : decode cX2_totalHold 16 = .ok (.ifCond .eq 12, 3) := by decide +kernel
theorem dX2_totalHold_19 : decode cX2_totalHold 19 = .ok (.aload_n 0, 1) := by decide +kernel
theorem dX2_totalHold_20 : decode cX2_totalHold 20 = .ok (.getfield 50, 3) := by decide +kernel
theorem dX2_totalHold_23 : decode cX2_totalHold 23 = .ok (.iload_n 2, 1) := by decide +kernel
theorem dX2_totalHold_24 : decode cX2_totalHold 24 = .ok (.iaload, 1) := by decide +kernel
theorem dX2_totalHold_25 : decode cX2_totalHold 25 = .ok (.goto 4, 3) := by decide +kernel
theorem dX2_totalHold_28 : decode cX2_totalHold 28 = .ok (.iconst 0, 1) := by decide +kernel
theorem dX2_totalHold_29 : decode cX2_totalHold 29 = .ok (.iadd, 1) := by decide +kernel
theorem dX2_totalHold_30 : decode cX2_totalHold 30 = .ok (.istore_n 1, 1) := by decide +kernel
theorem dX2_totalHold_31 : decode cX2_totalHold 31 = .ok (.iinc 2 1, 3) := by decide +kernel
theorem dX2_totalHold_34 : decode cX2_totalHold 34 = .ok (.goto (-30), 3) := by decide +kernel
theorem dX2_totalHold_37 : decode cX2_totalHold 37 = .ok (.iload_n 1, 1) := by decide +kernel
theorem dX2_totalHold_38 : decode cX2_totalHold 38 = .ok (.ireturn, 1) := by decide +kernel
theorem dX2_totalCircles_0 : decode cX2_totalCircles 0 = .ok (.iconst 0, 1) := by decide +kernel
theorem dX2_totalCircles_1 : decode cX2_totalCircles 1 = .ok (.istore_n 1, 1) := by decide +kernel
theorem dX2_totalCircles_2 : decode cX2_totalCircles 2 = .ok (.iconst 0, 1) := by decide +kernel
theorem dX2_totalCircles_3 : decode cX2_totalCircles 3 = .ok (.istore_n 2, 1) := by decide +kernel
theorem dX2_totalCircles_4 : decode cX2_totalCircles 4 = .ok (.iload_n 2, 1) := by decide +kernel
theorem dX2_totalCircles_5 : decode cX2_totalCircles 5 = .ok (.bipush 20, 2) := by decide +kernel
theorem dX2_totalCircles_7 : decode cX2_totalCircles 7 = .ok (.if_icmp .ge 30, 3) := by decide +kernel
theorem dX2_totalCircles_10 : decode cX2_totalCircles 10 = .ok (.iload_n 1, 1) := by decide +kernel
theorem dX2_totalCircles_11 : decode cX2_totalCircles 11 = .ok (.aload_n 0, 1) := by decide +kernel
theorem dX2_totalCircles_12 : decode cX2_totalCircles 12 = .ok (.iload_n 2, 1) := by decide +kernel
theorem dX2_totalCircles_13 : decode cX2_totalCircles 13 = .ok (.invokevirtual 126, 3) := by decide +kernel
theorem dX2_totalCircles_16 : decode cX2_totalCircles 16 = .ok (.ifCond .eq 12, 3) := by decide +kernel
theorem dX2_totalCircles_19 : decode cX2_totalCircles 19 = .ok (.aload_n 0, 1) := by decide +kernel
theorem dX2_totalCircles_20 : decode cX2_totalCircles 20 = .ok (.getfield 53, 3) := by decide +kernel
theorem dX2_totalCircles_23 : decode cX2_totalCircles 23 = .ok (.iload_n 2, 1) := by decide +kernel
theorem dX2_totalCircles_24 : decode cX2_totalCircles 24 = .ok (.iaload, 1) := by decide +kernel
theorem dX2_totalCircles_25 : decode cX2_totalCircles 25 = .ok (.goto 4, 3) := by decide +kernel
theorem dX2_totalCircles_28 : decode cX2_totalCircles 28 = .ok (.iconst 0, 1) := by decide +kernel
theorem dX2_totalCircles_29 : decode cX2_totalCircles 29 = .ok (.iadd, 1) := by decide +kernel
theorem dX2_totalCircles_30 : decode cX2_totalCircles 30 = .ok (.istore_n 1, 1) := by decide +kernel
theorem dX2_totalCircles_31 : decode cX2_totalCircles 31 = .ok (.iinc 2 1, 3) := by decide +kernel
theorem dX2_totalCircles_34 : decode cX2_totalCircles 34 = .ok (.goto (-30), 3) := by decide +kernel
theorem dX2_totalCircles_37 : decode cX2_totalCircles 37 = .ok (.iload_n 1, 1) := by decide +kernel
theorem dX2_totalCircles_38 : decode cX2_totalCircles 38 = .ok (.ireturn, 1) := by decide +kernel
theorem dX2_totalCost_0 : decode cX2_totalCost 0 = .ok (.iconst 0, 1) := by decide +kernel
theorem dX2_totalCost_1 : decode cX2_totalCost 1 = .ok (.istore_n 1, 1) := by decide +kernel
theorem dX2_totalCost_2 : decode cX2_totalCost 2 = .ok (.iconst 0, 1) := by decide +kernel
theorem dX2_totalCost_3 : decode cX2_totalCost 3 = .ok (.istore_n 2, 1) := by decide +kernel
theorem dX2_totalCost_4 : decode cX2_totalCost 4 = .ok (.iload_n 2, 1) := by decide +kernel
theorem dX2_totalCost_5 : decode cX2_totalCost 5 = .ok (.iconst 5, 1) := by decide +kernel
theorem dX2_totalCost_6 : decode cX2_totalCost 6 = .ok (.if_icmp .ge 17, 3) := by decide +kernel
theorem dX2_totalCost_9 : decode cX2_totalCost 9 = .ok (.iload_n 1, 1) := by decide +kernel
theorem dX2_totalCost_10 : decode cX2_totalCost 10 = .ok (.aload_n 0, 1) := by decide +kernel
theorem dX2_totalCost_11 : decode cX2_totalCost 11 = .ok (.iload_n 2, 1) := by decide +kernel
theorem dX2_totalCost_12 : decode cX2_totalCost 12 = .ok (.invokevirtual 244, 3) := by decide +kernel
theorem dX2_totalCost_15 : decode cX2_totalCost 15 = .ok (.iadd, 1) := by decide +kernel
theorem dX2_totalCost_16 : decode cX2_totalCost 16 = .ok (.istore_n 1, 1) := by decide +kernel
theorem dX2_totalCost_17 : decode cX2_totalCost 17 = .ok (.iinc 2 1, 3) := by decide +kernel
theorem dX2_totalCost_20 : decode cX2_totalCost 20 = .ok (.goto (-16), 3) := by decide +kernel
theorem dX2_totalCost_23 : decode cX2_totalCost 23 = .ok (.iload_n 1, 1) := by decide +kernel
theorem dX2_totalCost_24 : decode cX2_totalCost 24 = .ok (.ireturn, 1) := by decide +kernel
theorem dX2_longestWait_0 : decode cX2_longestWait 0 = .ok (.iconst 0, 1) := by decide +kernel
theorem dX2_longestWait_1 : decode cX2_longestWait 1 = .ok (.istore_n 1, 1) := by decide +kernel
theorem dX2_longestWait_2 : decode cX2_longestWait 2 = .ok (.iconst 0, 1) := by decide +kernel
theorem dX2_longestWait_3 : decode cX2_longestWait 3 = .ok (.istore_n 2, 1) := by decide +kernel
theorem dX2_longestWait_4 : decode cX2_longestWait 4 = .ok (.iload_n 2, 1) := by decide +kernel
theorem dX2_longestWait_5 : decode cX2_longestWait 5 = .ok (.iconst 5, 1) := by decide +kernel
theorem dX2_longestWait_6 : decode cX2_longestWait 6 = .ok (.if_icmp .ge 19, 3) := by decide +kernel
theorem dX2_longestWait_9 : decode cX2_longestWait 9 = .ok (.iload_n 1, 1) := by decide +kernel
theorem dX2_longestWait_10 : decode cX2_longestWait 10 = .ok (.aload_n 0, 1) := by decide +kernel
theorem dX2_longestWait_11 : decode cX2_longestWait 11 = .ok (.iload_n 2, 1) := by decide +kernel
theorem dX2_longestWait_12 : decode cX2_longestWait 12 = .ok (.invokevirtual 247, 3) := by decide +kernel
theorem dX2_longestWait_15 : decode cX2_longestWait 15 = .ok (.invokestatic 120, 3) := by decide +kernel
theorem dX2_longestWait_18 : decode cX2_longestWait 18 = .ok (.istore_n 1, 1) := by decide +kernel
theorem dX2_longestWait_19 : decode cX2_longestWait 19 = .ok (.iinc 2 1, 3) := by decide +kernel
theorem dX2_longestWait_22 : decode cX2_longestWait 22 = .ok (.goto (-18), 3) := by decide +kernel
theorem dX2_longestWait_25 : decode cX2_longestWait 25 = .ok (.iload_n 1, 1) := by decide +kernel
theorem dX2_longestWait_26 : decode cX2_longestWait 26 = .ok (.ireturn, 1) := by decide +kernel
theorem dX2_lastSlot_0 : decode cX2_lastSlot 0 = .ok (.iconst 0, 1) := by decide +kernel
theorem dX2_lastSlot_1 : decode cX2_lastSlot 1 = .ok (.istore_n 1, 1) := by decide +kernel
theorem dX2_lastSlot_2 : decode cX2_lastSlot 2 = .ok (.iconst 0, 1) := by decide +kernel
theorem dX2_lastSlot_3 : decode cX2_lastSlot 3 = .ok (.istore_n 2, 1) := by decide +kernel
theorem dX2_lastSlot_4 : decode cX2_lastSlot 4 = .ok (.iload_n 2, 1) := by decide +kernel
theorem dX2_lastSlot_5 : decode cX2_lastSlot 5 = .ok (.bipush 20, 2) := by decide +kernel
theorem dX2_lastSlot_7 : decode cX2_lastSlot 7 = .ok (.if_icmp .ge 20, 3) := by decide +kernel
theorem dX2_lastSlot_10 : decode cX2_lastSlot 10 = .ok (.iload_n 1, 1) := by decide +kernel
theorem dX2_lastSlot_11 : decode cX2_lastSlot 11 = .ok (.aload_n 0, 1) := by decide +kernel
theorem dX2_lastSlot_12 : decode cX2_lastSlot 12 = .ok (.getfield 46, 3) := by decide +kernel
theorem dX2_lastSlot_15 : decode cX2_lastSlot 15 = .ok (.iload_n 2, 1) := by decide +kernel
theorem dX2_lastSlot_16 : decode cX2_lastSlot 16 = .ok (.iaload, 1) := by decide +kernel
theorem dX2_lastSlot_17 : decode cX2_lastSlot 17 = .ok (.invokestatic 120, 3) := by decide +kernel
theorem dX2_lastSlot_20 : decode cX2_lastSlot 20 = .ok (.istore_n 1, 1) := by decide +kernel
theorem dX2_lastSlot_21 : decode cX2_lastSlot 21 = .ok (.iinc 2 1, 3) := by decide +kernel
theorem dX2_lastSlot_24 : decode cX2_lastSlot 24 = .ok (.goto (-20), 3) := by decide +kernel
theorem dX2_lastSlot_27 : decode cX2_lastSlot 27 = .ok (.iload_n 1, 1) := by decide +kernel
theorem dX2_lastSlot_28 : decode cX2_lastSlot 28 = .ok (.ireturn, 1) := by decide +kernel
theorem dX2_dueIn_0 : decode cX2_dueIn 0 = .ok (.iconst 0, 1) := by decide +kernel
theorem dX2_dueIn_1 : decode cX2_dueIn 1 = .ok (.istore_n 2, 1) := by decide +kernel
theorem dX2_dueIn_2 : decode cX2_dueIn 2 = .ok (.iconst 0, 1) := by decide +kernel
theorem dX2_dueIn_3 : decode cX2_dueIn 3 = .ok (.istore_n 3, 1) := by decide +kernel
theorem dX2_dueIn_4 : decode cX2_dueIn 4 = .ok (.iload_n 3, 1) := by decide +kernel
theorem dX2_dueIn_5 : decode cX2_dueIn 5 = .ok (.bipush 20, 2) := by decide +kernel
theorem dX2_dueIn_7 : decode cX2_dueIn 7 = .ok (.if_icmp .ge 41, 3) := by decide +kernel
theorem dX2_dueIn_10 : decode cX2_dueIn 10 = .ok (.iload_n 2, 1) := by decide +kernel
theorem dX2_dueIn_11 : decode cX2_dueIn 11 = .ok (.aload_n 0, 1) := by decide +kernel
theorem dX2_dueIn_12 : decode cX2_dueIn 12 = .ok (.iload_n 3, 1) := by decide +kernel
theorem dX2_dueIn_13 : decode cX2_dueIn 13 = .ok (.invokevirtual 107, 3) := by decide +kernel
theorem dX2_dueIn_16 : decode cX2_dueIn 16 = .ok (.ifCond .eq 23, 3) := by decide +kernel
theorem dX2_dueIn_19 : decode cX2_dueIn 19 = .ok (.aload_n 0, 1) := by decide +kernel
theorem dX2_dueIn_20 : decode cX2_dueIn 20 = .ok (.getfield 12, 3) := by decide +kernel
theorem dX2_dueIn_23 : decode cX2_dueIn 23 = .ok (.getfield 114, 3) := by decide +kernel
theorem dX2_dueIn_26 : decode cX2_dueIn 26 = .ok (.iload_n 3, 1) := by decide +kernel
theorem dX2_dueIn_27 : decode cX2_dueIn 27 = .ok (.iaload, 1) := by decide +kernel
theorem dX2_dueIn_28 : decode cX2_dueIn 28 = .ok (.bipush 60, 2) := by decide +kernel
theorem dX2_dueIn_30 : decode cX2_dueIn 30 = .ok (.idiv, 1) := by decide +kernel
theorem dX2_dueIn_31 : decode cX2_dueIn 31 = .ok (.iload_n 1, 1) := by decide +kernel
theorem dX2_dueIn_32 : decode cX2_dueIn 32 = .ok (.if_icmp .ne 7, 3) := by decide +kernel
theorem dX2_dueIn_35 : decode cX2_dueIn 35 = .ok (.iconst 1, 1) := by decide +kernel
theorem dX2_dueIn_36 : decode cX2_dueIn 36 = .ok (.goto 4, 3) := by decide +kernel
theorem dX2_dueIn_39 : decode cX2_dueIn 39 = .ok (.iconst 0, 1) := by decide +kernel
theorem dX2_dueIn_40 : decode cX2_dueIn 40 = .ok (.iadd, 1) := by decide +kernel
theorem dX2_dueIn_41 : decode cX2_dueIn 41 = .ok (.istore_n 2, 1) := by decide +kernel
theorem dX2_dueIn_42 : decode cX2_dueIn 42 = .ok (.iinc 3 1, 3) := by decide +kernel
theorem dX2_dueIn_45 : decode cX2_dueIn 45 = .ok (.goto (-41), 3) := by decide +kernel
theorem dX2_dueIn_48 : decode cX2_dueIn 48 = .ok (.iload_n 2, 1) := by decide +kernel
theorem dX2_dueIn_49 : decode cX2_dueIn 49 = .ok (.ireturn, 1) := by decide +kernel
theorem dX2_seatedIn_0 : decode cX2_seatedIn 0 = .ok (.iconst 0, 1) := by decide +kernel
theorem dX2_seatedIn_1 : decode cX2_seatedIn 1 = .ok (.istore_n 2, 1) := by decide +kernel
theorem dX2_seatedIn_2 : decode cX2_seatedIn 2 = .ok (.iconst 0, 1) := by decide +kernel
theorem dX2_seatedIn_3 : decode cX2_seatedIn 3 = .ok (.istore_n 3, 1) := by decide +kernel
theorem dX2_seatedIn_4 : decode cX2_seatedIn 4 = .ok (.iload_n 3, 1) := by decide +kernel
theorem dX2_seatedIn_5 : decode cX2_seatedIn 5 = .ok (.bipush 20, 2) := by decide +kernel
theorem dX2_seatedIn_7 : decode cX2_seatedIn 7 = .ok (.if_icmp .ge 38, 3) := by decide +kernel
theorem dX2_seatedIn_10 : decode cX2_seatedIn 10 = .ok (.iload_n 2, 1) := by decide +kernel
theorem dX2_seatedIn_11 : decode cX2_seatedIn 11 = .ok (.aload_n 0, 1) := by decide +kernel
theorem dX2_seatedIn_12 : decode cX2_seatedIn 12 = .ok (.iload_n 3, 1) := by decide +kernel
theorem dX2_seatedIn_13 : decode cX2_seatedIn 13 = .ok (.invokevirtual 126, 3) := by decide +kernel
theorem dX2_seatedIn_16 : decode cX2_seatedIn 16 = .ok (.ifCond .eq 20, 3) := by decide +kernel
theorem dX2_seatedIn_19 : decode cX2_seatedIn 19 = .ok (.aload_n 0, 1) := by decide +kernel
theorem dX2_seatedIn_20 : decode cX2_seatedIn 20 = .ok (.getfield 46, 3) := by decide +kernel
theorem dX2_seatedIn_23 : decode cX2_seatedIn 23 = .ok (.iload_n 3, 1) := by decide +kernel
theorem dX2_seatedIn_24 : decode cX2_seatedIn 24 = .ok (.iaload, 1) := by decide +kernel
theorem dX2_seatedIn_25 : decode cX2_seatedIn 25 = .ok (.bipush 60, 2) := by decide +kernel
theorem dX2_seatedIn_27 : decode cX2_seatedIn 27 = .ok (.idiv, 1) := by decide +kernel
theorem dX2_seatedIn_28 : decode cX2_seatedIn 28 = .ok (.iload_n 1, 1) := by decide +kernel
theorem dX2_seatedIn_29 : decode cX2_seatedIn 29 = .ok (.if_icmp .ne 7, 3) := by decide +kernel
theorem dX2_seatedIn_32 : decode cX2_seatedIn 32 = .ok (.iconst 1, 1) := by decide +kernel
theorem dX2_seatedIn_33 : decode cX2_seatedIn 33 = .ok (.goto 4, 3) := by decide +kernel
theorem dX2_seatedIn_36 : decode cX2_seatedIn 36 = .ok (.iconst 0, 1) := by decide +kernel
theorem dX2_seatedIn_37 : decode cX2_seatedIn 37 = .ok (.iadd, 1) := by decide +kernel
theorem dX2_seatedIn_38 : decode cX2_seatedIn 38 = .ok (.istore_n 2, 1) := by decide +kernel
theorem dX2_seatedIn_39 : decode cX2_seatedIn 39 = .ok (.iinc 3 1, 3) := by decide +kernel
theorem dX2_seatedIn_42 : decode cX2_seatedIn 42 = .ok (.goto (-38), 3) := by decide +kernel
theorem dX2_seatedIn_45 : decode cX2_seatedIn 45 = .ok (.iload_n 2, 1) := by decide +kernel
theorem dX2_seatedIn_46 : decode cX2_seatedIn 46 = .ok (.ireturn, 1) := by decide +kernel
theorem dX2_underWay_0 : decode cX2_underWay 0 = .ok (.iconst 0, 1) := by decide +kernel
theorem dX2_underWay_1 : decode cX2_underWay 1 = .ok (.istore_n 2, 1) := by decide +kernel
theorem dX2_underWay_2 : decode cX2_underWay 2 = .ok (.iconst 0, 1) := by decide +kernel
theorem dX2_underWay_3 : decode cX2_underWay 3 = .ok (.istore_n 3, 1) := by decide +kernel
theorem dX2_underWay_4 : decode cX2_underWay 4 = .ok (.iload_n 3, 1) := by decide +kernel
theorem dX2_underWay_5 : decode cX2_underWay 5 = .ok (.bipush 20, 2) := by decide +kernel
theorem dX2_underWay_7 : decode cX2_underWay 7 = .ok (.if_icmp .ge 42, 3) := by decide +kernel
theorem dX2_underWay_10 : decode cX2_underWay 10 = .ok (.aload_n 0, 1) := by decide +kernel
theorem dX2_underWay_11 : decode cX2_underWay 11 = .ok (.iload_n 3, 1) := by decide +kernel
theorem dX2_underWay_12 : decode cX2_underWay 12 = .ok (.invokevirtual 126, 3) := by decide +kernel
theorem dX2_underWay_15 : decode cX2_underWay 15 = .ok (.ifCond .eq 28, 3) := by decide +kernel
theorem dX2_underWay_18 : decode cX2_underWay 18 = .ok (.aload_n 0, 1) := by decide +kernel
theorem dX2_underWay_19 : decode cX2_underWay 19 = .ok (.iload_n 3, 1) := by decide +kernel
theorem dX2_underWay_20 : decode cX2_underWay 20 = .ok (.invokevirtual 129, 3) := by decide +kernel
theorem dX2_underWay_23 : decode cX2_underWay 23 = .ok (.iload_n 1, 1) := by decide +kernel
theorem dX2_underWay_24 : decode cX2_underWay 24 = .ok (.if_icmp .gt 19, 3) := by decide +kernel
theorem dX2_underWay_27 : decode cX2_underWay 27 = .ok (.aload_n 0, 1) := by decide +kernel
theorem dX2_underWay_28 : decode cX2_underWay 28 = .ok (.getfield 46, 3) := by decide +kernel
theorem dX2_underWay_31 : decode cX2_underWay 31 = .ok (.iload_n 3, 1) := by decide +kernel
theorem dX2_underWay_32 : decode cX2_underWay 32 = .ok (.iaload, 1) := by decide +kernel
theorem dX2_underWay_33 : decode cX2_underWay 33 = .ok (.iload_n 1, 1) := by decide +kernel
theorem dX2_underWay_34 : decode cX2_underWay 34 = .ok (.if_icmp .le 9, 3) := by decide +kernel
theorem dX2_underWay_37 : decode cX2_underWay 37 = .ok (.iload_n 2, 1) := by decide +kernel
theorem dX2_underWay_38 : decode cX2_underWay 38 = .ok (.iconst 1, 1) := by decide +kernel
theorem dX2_underWay_39 : decode cX2_underWay 39 = .ok (.iload_n 3, 1) := by decide +kernel
theorem dX2_underWay_40 : decode cX2_underWay 40 = .ok (.ishl, 1) := by decide +kernel
theorem dX2_underWay_41 : decode cX2_underWay 41 = .ok (.ior, 1) := by decide +kernel
theorem dX2_underWay_42 : decode cX2_underWay 42 = .ok (.istore_n 2, 1) := by decide +kernel
theorem dX2_underWay_43 : decode cX2_underWay 43 = .ok (.iinc 3 1, 3) := by decide +kernel
theorem dX2_underWay_46 : decode cX2_underWay 46 = .ok (.goto (-42), 3) := by decide +kernel
theorem dX2_underWay_49 : decode cX2_underWay 49 = .ok (.iload_n 2, 1) := by decide +kernel
theorem dX2_underWay_50 : decode cX2_underWay 50 = .ok (.ireturn, 1) := by decide +kernel
theorem dX2_landsNext_0 : decode cX2_landsNext 0 = .ok (.iconst (-1), 1) := by decide +kernel
theorem dX2_landsNext_1 : decode cX2_landsNext 1 = .ok (.istore_n 2, 1) := by decide +kernel
theorem dX2_landsNext_2 : decode cX2_landsNext 2 = .ok (.iconst 0, 1) := by decide +kernel
theorem dX2_landsNext_3 : decode cX2_landsNext 3 = .ok (.istore_n 3, 1) := by decide +kernel
theorem dX2_landsNext_4 : decode cX2_landsNext 4 = .ok (.iload_n 3, 1) := by decide +kernel
theorem dX2_landsNext_5 : decode cX2_landsNext 5 = .ok (.bipush 20, 2) := by decide +kernel
theorem dX2_landsNext_7 : decode cX2_landsNext 7 = .ok (.if_icmp .ge 34, 3) := by decide +kernel
theorem dX2_landsNext_10 : decode cX2_landsNext 10 = .ok (.aload_n 0, 1) := by decide +kernel
theorem dX2_landsNext_11 : decode cX2_landsNext 11 = .ok (.iload_n 3, 1) := by decide +kernel
theorem dX2_landsNext_12 : decode cX2_landsNext 12 = .ok (.invokevirtual 126, 3) := by decide +kernel
theorem dX2_landsNext_15 : decode cX2_landsNext 15 = .ok (.ifCond .eq 20, 3) := by decide +kernel
theorem dX2_landsNext_18 : decode cX2_landsNext 18 = .ok (.aload_n 0, 1) := by decide +kernel
theorem dX2_landsNext_19 : decode cX2_landsNext 19 = .ok (.getfield 46, 3) := by decide +kernel
theorem dX2_landsNext_22 : decode cX2_landsNext 22 = .ok (.iload_n 3, 1) := by decide +kernel
theorem dX2_landsNext_23 : decode cX2_landsNext 23 = .ok (.iaload, 1) := by decide +kernel
theorem dX2_landsNext_24 : decode cX2_landsNext 24 = .ok (.iload_n 1, 1) := by decide +kernel
theorem dX2_landsNext_25 : decode cX2_landsNext 25 = .ok (.if_icmp .lt 10, 3) := by decide +kernel
theorem dX2_landsNext_28 : decode cX2_landsNext 28 = .ok (.aload_n 0, 1) := by decide +kernel
theorem dX2_landsNext_29 : decode cX2_landsNext 29 = .ok (.iload_n 2, 1) := by decide +kernel
theorem dX2_landsNext_30 : decode cX2_landsNext 30 = .ok (.iload_n 3, 1) := by decide +kernel
theorem dX2_landsNext_31 : decode cX2_landsNext 31 = .ok (.invokevirtual 172, 3) := by decide +kernel
theorem dX2_landsNext_34 : decode cX2_landsNext 34 = .ok (.istore_n 2, 1) := by decide +kernel
theorem dX2_landsNext_35 : decode cX2_landsNext 35 = .ok (.iinc 3 1, 3) := by decide +kernel
theorem dX2_landsNext_38 : decode cX2_landsNext 38 = .ok (.goto (-34), 3) := by decide +kernel
theorem dX2_landsNext_41 : decode cX2_landsNext 41 = .ok (.iload_n 2, 1) := by decide +kernel
theorem dX2_landsNext_42 : decode cX2_landsNext 42 = .ok (.iconst (-1), 1) := by decide +kernel
theorem dX2_landsNext_43 : decode cX2_landsNext 43 = .ok (.if_icmp .ne 8, 3) := by decide +kernel
theorem dX2_landsNext_46 : decode cX2_landsNext 46 = .ok (.bipush (-2), 2) := by decide +kernel
theorem dX2_landsNext_48 : decode cX2_landsNext 48 = .ok (.goto 4, 3) := by decide +kernel
theorem dX2_landsNext_51 : decode cX2_landsNext 51 = .ok (.iload_n 2, 1) := by decide +kernel
theorem dX2_landsNext_52 : decode cX2_landsNext 52 = .ok (.ireturn, 1) := by decide +kernel
theorem dX3_init_0 : decode cX3_init 0 = .ok (.aload_n 0, 1) := by decide +kernel
theorem dX3_init_1 : decode cX3_init 1 = .ok (.invokespecial 3, 3) := by decide +kernel
theorem dX3_init_4 : decode cX3_init 4 = .ok (.aload_n 0, 1) := by decide +kernel
theorem dX3_init_5 : decode cX3_init 5 = .ok (.bipush 12, 2) := by decide +kernel
theorem dX3_init_7 : decode cX3_init 7 = .ok (.newarray .int, 2) := by decide +kernel
theorem dX3_init_9 : decode cX3_init 9 = .ok (.putfield 11, 3) := by decide +kernel
theorem dX3_init_12 : decode cX3_init 12 = .ok (.aload_n 0, 1) := by decide +kernel
theorem dX3_init_13 : decode cX3_init 13 = .ok (.bipush 12, 2) := by decide +kernel
theorem dX3_init_15 : decode cX3_init 15 = .ok (.newarray .int, 2) := by decide +kernel
theorem dX3_init_17 : decode cX3_init 17 = .ok (.putfield 15, 3) := by decide +kernel
theorem dX3_init_20 : decode cX3_init 20 = .ok (.aload_n 0, 1) := by decide +kernel
theorem dX3_init_21 : decode cX3_init 21 = .ok (.bipush 12, 2) := by decide +kernel
theorem dX3_init_23 : decode cX3_init 23 = .ok (.newarray .int, 2) := by decide +kernel
theorem dX3_init_25 : decode cX3_init 25 = .ok (.putfield 18, 3) := by decide +kernel
theorem dX3_init_28 : decode cX3_init 28 = .ok (.return_, 1) := by decide +kernel
theorem dX3_has_0 : decode cX3_has 0 = .ok (.iload_n 1, 1) := by decide +kernel
theorem dX3_has_1 : decode cX3_has 1 = .ok (.ifCond .lt 21, 3) := by decide +kernel
theorem dX3_has_4 : decode cX3_has 4 = .ok (.iload_n 1, 1) := by decide +kernel
theorem dX3_has_5 : decode cX3_has 5 = .ok (.aload_n 0, 1) := by decide +kernel
theorem dX3_has_6 : decode cX3_has 6 = .ok (.getfield 21, 3) := by decide +kernel
theorem dX3_has_9 : decode cX3_has 9 = .ok (.if_icmp .ge 13, 3) := by decide +kernel
theorem dX3_has_12 : decode cX3_has 12 = .ok (.iload_n 1, 1) := by decide +kernel
theorem dX3_has_13 : decode cX3_has 13 = .ok (.bipush 12, 2) := by decide +kernel
theorem dX3_has_15 : decode cX3_has 15 = .ok (.if_icmp .ge 7, 3) := by decide +kernel
theorem dX3_has_18 : decode cX3_has 18 = .ok (.iconst 1, 1) := by decide +kernel
theorem dX3_has_19 : decode cX3_has 19 = .ok (.goto 4, 3) := by decide +kernel
theorem dX3_has_22 : decode cX3_has 22 = .ok (.iconst 0, 1) := by decide +kernel
theorem dX3_has_23 : decode cX3_has 23 = .ok (.ireturn, 1) := by decide +kernel
theorem dX3_add_0 : decode cX3_add 0 = .ok (.aload_n 0, 1) := by decide +kernel
theorem dX3_add_1 : decode cX3_add 1 = .ok (.getfield 21, 3) := by decide +kernel
theorem dX3_add_4 : decode cX3_add 4 = .ok (.ifCond .lt 12, 3) := by decide +kernel
theorem dX3_add_7 : decode cX3_add 7 = .ok (.aload_n 0, 1) := by decide +kernel
theorem dX3_add_8 : decode cX3_add 8 = .ok (.getfield 21, 3) := by decide +kernel
theorem dX3_add_11 : decode cX3_add 11 = .ok (.bipush 12, 2) := by decide +kernel
theorem dX3_add_13 : decode cX3_add 13 = .ok (.if_icmp .lt 6, 3) := by decide +kernel
theorem dX3_add_16 : decode cX3_add 16 = .ok (.bipush (-2), 2) := by decide +kernel
theorem dX3_add_18 : decode cX3_add 18 = .ok (.ireturn, 1) := by decide +kernel
theorem dX3_add_19 : decode cX3_add 19 = .ok (.aload_n 0, 1) := by decide +kernel
theorem dX3_add_20 : decode cX3_add 20 = .ok (.getfield 11, 3) := by decide +kernel
theorem dX3_add_23 : decode cX3_add 23 = .ok (.aload_n 0, 1) := by decide +kernel
theorem dX3_add_24 : decode cX3_add 24 = .ok (.getfield 21, 3) := by decide +kernel
theorem dX3_add_27 : decode cX3_add 27 = .ok (.iload_n 1, 1) := by decide +kernel
theorem dX3_add_28 : decode cX3_add 28 = .ok (.iastore, 1) := by decide +kernel
theorem dX3_add_29 : decode cX3_add 29 = .ok (.aload_n 0, 1) := by decide +kernel
theorem dX3_add_30 : decode cX3_add 30 = .ok (.getfield 15, 3) := by decide +kernel
theorem dX3_add_33 : decode cX3_add 33 = .ok (.aload_n 0, 1) := by decide +kernel
theorem dX3_add_34 : decode cX3_add 34 = .ok (.getfield 21, 3) := by decide +kernel
theorem dX3_add_37 : decode cX3_add 37 = .ok (.iload_n 2, 1) := by decide +kernel
theorem dX3_add_38 : decode cX3_add 38 = .ok (.iastore, 1) := by decide +kernel
theorem dX3_add_39 : decode cX3_add 39 = .ok (.aload_n 0, 1) := by decide +kernel
theorem dX3_add_40 : decode cX3_add 40 = .ok (.getfield 18, 3) := by decide +kernel
theorem dX3_add_43 : decode cX3_add 43 = .ok (.aload_n 0, 1) := by decide +kernel
theorem dX3_add_44 : decode cX3_add 44 = .ok (.getfield 21, 3) := by decide +kernel
theorem dX3_add_47 : decode cX3_add 47 = .ok (.iload_n 3, 1) := by decide +kernel
theorem dX3_add_48 : decode cX3_add 48 = .ok (.iastore, 1) := by decide +kernel
theorem dX3_add_49 : decode cX3_add 49 = .ok (.aload_n 0, 1) := by decide +kernel
theorem dX3_add_50 : decode cX3_add 50 = .ok (.dup, 1) := by decide +kernel
theorem dX3_add_51 : decode cX3_add 51 = .ok (.getfield 21, 3) := by decide +kernel
theorem dX3_add_54 : decode cX3_add 54 = .ok (.iconst 1, 1) := by decide +kernel
theorem dX3_add_55 : decode cX3_add 55 = .ok (.iadd, 1) := by decide +kernel
theorem dX3_add_56 : decode cX3_add 56 = .ok (.putfield 21, 3) := by decide +kernel
theorem dX3_add_59 : decode cX3_add 59 = .ok (.aload_n 0, 1) := by decide +kernel
theorem dX3_add_60 : decode cX3_add 60 = .ok (.getfield 21, 3) := by decide +kernel
theorem dX3_add_63 : decode cX3_add 63 = .ok (.iconst 1, 1) := by decide +kernel
theorem dX3_add_64 : decode cX3_add 64 = .ok (.isub, 1) := by decide +kernel
theorem dX3_add_65 : decode cX3_add 65 = .ok (.ireturn, 1) := by decide +kernel
theorem dX3_copyFrom_0 : decode cX3_copyFrom 0 = .ok (.aload_n 1, 1) := by decide +kernel
theorem dX3_copyFrom_1 : decode cX3_copyFrom 1 = .ok (.getfield 11, 3) := by decide +kernel
theorem dX3_copyFrom_4 : decode cX3_copyFrom 4 = .ok (.iconst 0, 1) := by decide +kernel
theorem dX3_copyFrom_5 : decode cX3_copyFrom 5 = .ok (.aload_n 0, 1) := by decide +kernel
theorem dX3_copyFrom_6 : decode cX3_copyFrom 6 = .ok (.getfield 11, 3) := by decide +kernel
theorem dX3_copyFrom_9 : decode cX3_copyFrom 9 = .ok (.iconst 0, 1) := by decide +kernel
theorem dX3_copyFrom_10 : decode cX3_copyFrom 10 = .ok (.bipush 12, 2) := by decide +kernel
theorem dX3_copyFrom_12 : decode cX3_copyFrom 12 = .ok (.invokestatic 25, 3) := by decide +kernel
theorem dX3_copyFrom_15 : decode cX3_copyFrom 15 = .ok (.aload_n 1, 1) := by decide +kernel
theorem dX3_copyFrom_16 : decode cX3_copyFrom 16 = .ok (.getfield 15, 3) := by decide +kernel
theorem dX3_copyFrom_19 : decode cX3_copyFrom 19 = .ok (.iconst 0, 1) := by decide +kernel
theorem dX3_copyFrom_20 : decode cX3_copyFrom 20 = .ok (.aload_n 0, 1) := by decide +kernel
theorem dX3_copyFrom_21 : decode cX3_copyFrom 21 = .ok (.getfield 15, 3) := by decide +kernel
theorem dX3_copyFrom_24 : decode cX3_copyFrom 24 = .ok (.iconst 0, 1) := by decide +kernel
theorem dX3_copyFrom_25 : decode cX3_copyFrom 25 = .ok (.bipush 12, 2) := by decide +kernel
theorem dX3_copyFrom_27 : decode cX3_copyFrom 27 = .ok (.invokestatic 25, 3) := by decide +kernel
theorem dX3_copyFrom_30 : decode cX3_copyFrom 30 = .ok (.aload_n 1, 1) := by decide +kernel
theorem dX3_copyFrom_31 : decode cX3_copyFrom 31 = .ok (.getfield 18, 3) := by decide +kernel
theorem dX3_copyFrom_34 : decode cX3_copyFrom 34 = .ok (.iconst 0, 1) := by decide +kernel
theorem dX3_copyFrom_35 : decode cX3_copyFrom 35 = .ok (.aload_n 0, 1) := by decide +kernel
theorem dX3_copyFrom_36 : decode cX3_copyFrom 36 = .ok (.getfield 18, 3) := by decide +kernel
theorem dX3_copyFrom_39 : decode cX3_copyFrom 39 = .ok (.iconst 0, 1) := by decide +kernel
theorem dX3_copyFrom_40 : decode cX3_copyFrom 40 = .ok (.bipush 12, 2) := by decide +kernel
theorem dX3_copyFrom_42 : decode cX3_copyFrom 42 = .ok (.invokestatic 25, 3) := by decide +kernel
theorem dX3_copyFrom_45 : decode cX3_copyFrom 45 = .ok (.aload_n 0, 1) := by decide +kernel
theorem dX3_copyFrom_46 : decode cX3_copyFrom 46 = .ok (.aload_n 1, 1) := by decide +kernel
theorem dX3_copyFrom_47 : decode cX3_copyFrom 47 = .ok (.getfield 21, 3) := by decide +kernel
theorem dX3_copyFrom_50 : decode cX3_copyFrom 50 = .ok (.putfield 21, 3) := by decide +kernel
theorem dX3_copyFrom_53 : decode cX3_copyFrom 53 = .ok (.return_, 1) := by decide +kernel
theorem dX4_init_0 : decode cX4_init 0 = .ok (.aload_n 0, 1) := by decide +kernel
theorem dX4_init_1 : decode cX4_init 1 = .ok (.invokespecial 3, 3) := by decide +kernel
theorem dX4_init_4 : decode cX4_init 4 = .ok (.aload_n 0, 1) := by decide +kernel
theorem dX4_init_5 : decode cX4_init 5 = .ok (.bipush 8, 2) := by decide +kernel
theorem dX4_init_7 : decode cX4_init 7 = .ok (.newarray .int, 2) := by decide +kernel
theorem dX4_init_9 : decode cX4_init 9 = .ok (.putfield 11, 3) := by decide +kernel
theorem dX4_init_12 : decode cX4_init 12 = .ok (.aload_n 0, 1) := by decide +kernel
theorem dX4_init_13 : decode cX4_init 13 = .ok (.bipush 8, 2) := by decide +kernel
theorem dX4_init_15 : decode cX4_init 15 = .ok (.newarray .int, 2) := by decide +kernel
theorem dX4_init_17 : decode cX4_init 17 = .ok (.putfield 15, 3) := by decide +kernel
theorem dX4_init_20 : decode cX4_init 20 = .ok (.aload_n 0, 1) := by decide +kernel
theorem dX4_init_21 : decode cX4_init 21 = .ok (.bipush 8, 2) := by decide +kernel
theorem dX4_init_23 : decode cX4_init 23 = .ok (.newarray .int, 2) := by decide +kernel
theorem dX4_init_25 : decode cX4_init 25 = .ok (.putfield 18, 3) := by decide +kernel
theorem dX4_init_28 : decode cX4_init 28 = .ok (.aload_n 0, 1) := by decide +kernel
theorem dX4_init_29 : decode cX4_init 29 = .ok (.bipush 8, 2) := by decide +kernel
theorem dX4_init_31 : decode cX4_init 31 = .ok (.newarray .int, 2) := by decide +kernel
theorem dX4_init_33 : decode cX4_init 33 = .ok (.putfield 21, 3) := by decide +kernel
theorem dX4_init_36 : decode cX4_init 36 = .ok (.return_, 1) := by decide +kernel
theorem dX4_has_0 : decode cX4_has 0 = .ok (.iload_n 1, 1) := by decide +kernel
theorem dX4_has_1 : decode cX4_has 1 = .ok (.ifCond .lt 24, 3) := by decide +kernel
theorem dX4_has_4 : decode cX4_has 4 = .ok (.iload_n 1, 1) := by decide +kernel
theorem dX4_has_5 : decode cX4_has 5 = .ok (.bipush 8, 2) := by decide +kernel
theorem dX4_has_7 : decode cX4_has 7 = .ok (.if_icmp .ge 18, 3) := by decide +kernel
theorem dX4_has_10 : decode cX4_has 10 = .ok (.aload_n 0, 1) := by decide +kernel
theorem dX4_has_11 : decode cX4_has 11 = .ok (.getfield 24, 3) := by decide +kernel
theorem dX4_has_14 : decode cX4_has 14 = .ok (.iconst 1, 1) := by decide +kernel
theorem dX4_has_15 : decode cX4_has 15 = .ok (.iload_n 1, 1) := by decide +kernel
theorem dX4_has_16 : decode cX4_has 16 = .ok (.ishl, 1) := by decide +kernel
theorem dX4_has_17 : decode cX4_has 17 = .ok (.iand, 1) := by decide +kernel
theorem dX4_has_18 : decode cX4_has 18 = .ok (.ifCond .eq 7, 3) := by decide +kernel
theorem dX4_has_21 : decode cX4_has 21 = .ok (.iconst 1, 1) := by decide +kernel
theorem dX4_has_22 : decode cX4_has 22 = .ok (.goto 4, 3) := by decide +kernel
theorem dX4_has_25 : decode cX4_has 25 = .ok (.iconst 0, 1) := by decide +kernel
theorem dX4_has_26 : decode cX4_has 26 = .ok (.ireturn, 1) := by decide +kernel
theorem dX4_lowestFree_0 : decode cX4_lowestFree 0 = .ok (.iconst 0, 1) := by decide +kernel
theorem dX4_lowestFree_1 : decode cX4_lowestFree 1 = .ok (.istore_n 1, 1) := by decide +kernel
theorem dX4_lowestFree_2 : decode cX4_lowestFree 2 = .ok (.iload_n 1, 1) := by decide +kernel
theorem dX4_lowestFree_3 : decode cX4_lowestFree 3 = .ok (.bipush 8, 2) := by decide +kernel
theorem dX4_lowestFree_5 : decode cX4_lowestFree 5 = .ok (.if_icmp .ge 19, 3) := by decide +kernel
theorem dX4_lowestFree_8 : decode cX4_lowestFree 8 = .ok (.aload_n 0, 1) := by decide +kernel
theorem dX4_lowestFree_9 : decode cX4_lowestFree 9 = .ok (.iload_n 1, 1) := by decide +kernel
theorem dX4_lowestFree_10 : decode cX4_lowestFree 10 = .ok (.invokevirtual 28, 3) := by decide +kernel
theorem dX4_lowestFree_13 : decode cX4_lowestFree 13 = .ok (.ifCond .ne 5, 3) := by decide +kernel
theorem dX4_lowestFree_16 : decode cX4_lowestFree 16 = .ok (.iload_n 1, 1) := by decide +kernel
theorem dX4_lowestFree_17 : decode cX4_lowestFree 17 = .ok (.ireturn, 1) := by decide +kernel
theorem dX4_lowestFree_18 : decode cX4_lowestFree 18 = .ok (.iinc 1 1, 3) := by decide +kernel
theorem dX4_lowestFree_21 : decode cX4_lowestFree 21 = .ok (.goto (-19), 3) := by decide +kernel
theorem dX4_lowestFree_24 : decode cX4_lowestFree 24 = .ok (.iconst (-1), 1) := by decide +kernel
theorem dX4_lowestFree_25 : decode cX4_lowestFree 25 = .ok (.ireturn, 1) := by decide +kernel
theorem dX4_countMade_0 : decode cX4_countMade 0 = .ok (.aload_n 0, 1) := by decide +kernel
theorem dX4_countMade_1 : decode cX4_countMade 1 = .ok (.getfield 24, 3) := by decide +kernel
theorem dX4_countMade_4 : decode cX4_countMade 4 = .ok (.invokestatic 32, 3) := by decide +kernel
theorem dX4_countMade_7 : decode cX4_countMade 7 = .ok (.ireturn, 1) := by decide +kernel
theorem dX4_put_0 : decode cX4_put 0 = .ok (.iload_n 1, 1) := by decide +kernel
theorem dX4_put_1 : decode cX4_put 1 = .ok (.ifCond .lt 9, 3) := by decide +kernel
theorem dX4_put_4 : decode cX4_put 4 = .ok (.iload_n 1, 1) := by decide +kernel
theorem dX4_put_5 : decode cX4_put 5 = .ok (.bipush 8, 2) := by decide +kernel
theorem dX4_put_7 : decode cX4_put 7 = .ok (.if_icmp .lt 4, 3) := by decide +kernel
theorem dX4_put_10 : decode cX4_put 10 = .ok (.return_, 1) := by decide +kernel
theorem dX4_put_11 : decode cX4_put 11 = .ok (.aload_n 0, 1) := by decide +kernel
theorem dX4_put_12 : decode cX4_put 12 = .ok (.dup, 1) := by decide +kernel
theorem dX4_put_13 : decode cX4_put 13 = .ok (.getfield 24, 3) := by decide +kernel
theorem dX4_put_16 : decode cX4_put 16 = .ok (.iconst 1, 1) := by decide +kernel
theorem dX4_put_17 : decode cX4_put 17 = .ok (.iload_n 1, 1) := by decide +kernel
theorem dX4_put_18 : decode cX4_put 18 = .ok (.ishl, 1) := by decide +kernel
theorem dX4_put_19 : decode cX4_put 19 = .ok (.ior, 1) := by decide +kernel
theorem dX4_put_20 : decode cX4_put 20 = .ok (.putfield 24, 3) := by decide +kernel
theorem dX4_put_23 : decode cX4_put 23 = .ok (.aload_n 0, 1) := by decide +kernel
theorem dX4_put_24 : decode cX4_put 24 = .ok (.getfield 11, 3) := by decide +kernel
theorem dX4_put_27 : decode cX4_put 27 = .ok (.iload_n 1, 1) := by decide +kernel
theorem dX4_put_28 : decode cX4_put 28 = .ok (.iload_n 2, 1) := by decide +kernel
theorem dX4_put_29 : decode cX4_put 29 = .ok (.iastore, 1) := by decide +kernel
theorem dX4_put_30 : decode cX4_put 30 = .ok (.aload_n 0, 1) := by decide +kernel
theorem dX4_put_31 : decode cX4_put 31 = .ok (.getfield 15, 3) := by decide +kernel
theorem dX4_put_34 : decode cX4_put 34 = .ok (.iload_n 1, 1) := by decide +kernel
theorem dX4_put_35 : decode cX4_put 35 = .ok (.iload_n 3, 1) := by decide +kernel
theorem dX4_put_36 : decode cX4_put 36 = .ok (.iastore, 1) := by decide +kernel
theorem dX4_put_37 : decode cX4_put 37 = .ok (.aload_n 0, 1) := by decide +kernel
theorem dX4_put_38 : decode cX4_put 38 = .ok (.getfield 18, 3) := by decide +kernel
theorem dX4_put_41 : decode cX4_put 41 = .ok (.iload_n 1, 1) := by decide +kernel
theorem dX4_put_42 : decode cX4_put 42 = .ok (.iload 4, 2) := by decide +kernel
theorem dX4_put_44 : decode cX4_put 44 = .ok (.iastore, 1) := by decide +kernel
theorem dX4_put_45 : decode cX4_put 45 = .ok (.aload_n 0, 1) := by decide +kernel
theorem dX4_put_46 : decode cX4_put 46 = .ok (.getfield 21, 3) := by decide +kernel
theorem dX4_put_49 : decode cX4_put 49 = .ok (.iload_n 1, 1) := by decide +kernel
theorem dX4_put_50 : decode cX4_put 50 = .ok (.iload 5, 2) := by decide +kernel
theorem dX4_put_52 : decode cX4_put 52 = .ok (.iastore, 1) := by decide +kernel
theorem dX4_put_53 : decode cX4_put 53 = .ok (.return_, 1) := by decide +kernel
theorem dX4_drop_0 : decode cX4_drop 0 = .ok (.aload_n 0, 1) := by decide +kernel
theorem dX4_drop_1 : decode cX4_drop 1 = .ok (.iload_n 1, 1) := by decide +kernel
theorem dX4_drop_2 : decode cX4_drop 2 = .ok (.invokevirtual 28, 3) := by decide +kernel
theorem dX4_drop_5 : decode cX4_drop 5 = .ok (.ifCond .eq 17, 3) := by decide +kernel
theorem dX4_drop_8 : decode cX4_drop 8 = .ok (.aload_n 0, 1) := by decide +kernel
theorem dX4_drop_9 : decode cX4_drop 9 = .ok (.dup, 1) := by decide +kernel
theorem dX4_drop_10 : decode cX4_drop 10 = .ok (.getfield 24, 3) := by decide +kernel
theorem dX4_drop_13 : decode cX4_drop 13 = .ok (.iconst 1, 1) := by decide +kernel
theorem dX4_drop_14 : decode cX4_drop 14 = .ok (.iload_n 1, 1) := by decide +kernel
theorem dX4_drop_15 : decode cX4_drop 15 = .ok (.ishl, 1) := by decide +kernel
theorem dX4_drop_16 : decode cX4_drop 16 = .ok (.iconst (-1), 1) := by decide +kernel
theorem dX4_drop_17 : decode cX4_drop 17 = .ok (.ixor, 1) := by decide +kernel
theorem dX4_drop_18 : decode cX4_drop 18 = .ok (.iand, 1) := by decide +kernel
theorem dX4_drop_19 : decode cX4_drop 19 = .ok (.putfield 24, 3) := by decide +kernel
theorem dX4_drop_22 : decode cX4_drop 22 = .ok (.return_, 1) := by decide +kernel
theorem dX4_dropAll_0 : decode cX4_dropAll 0 = .ok (.aload_n 0, 1) := by decide +kernel
theorem dX4_dropAll_1 : decode cX4_dropAll 1 = .ok (.iconst 0, 1) := by decide +kernel
theorem dX4_dropAll_2 : decode cX4_dropAll 2 = .ok (.putfield 24, 3) := by decide +kernel
theorem dX4_dropAll_5 : decode cX4_dropAll 5 = .ok (.return_, 1) := by decide +kernel
theorem dX4_copyFrom_0 : decode cX4_copyFrom 0 = .ok (.aload_n 1, 1) := by decide +kernel
theorem dX4_copyFrom_1 : decode cX4_copyFrom 1 = .ok (.getfield 11, 3) := by decide +kernel
theorem dX4_copyFrom_4 : decode cX4_copyFrom 4 = .ok (.iconst 0, 1) := by decide +kernel
theorem dX4_copyFrom_5 : decode cX4_copyFrom 5 = .ok (.aload_n 0, 1) := by decide +kernel
theorem dX4_copyFrom_6 : decode cX4_copyFrom 6 = .ok (.getfield 11, 3) := by decide +kernel
theorem dX4_copyFrom_9 : decode cX4_copyFrom 9 = .ok (.iconst 0, 1) := by decide +kernel
theorem dX4_copyFrom_10 : decode cX4_copyFrom 10 = .ok (.bipush 8, 2) := by decide +kernel
theorem dX4_copyFrom_12 : decode cX4_copyFrom 12 = .ok (.invokestatic 38, 3) := by decide +kernel
theorem dX4_copyFrom_15 : decode cX4_copyFrom 15 = .ok (.aload_n 1, 1) := by decide +kernel
theorem dX4_copyFrom_16 : decode cX4_copyFrom 16 = .ok (.getfield 15, 3) := by decide +kernel
theorem dX4_copyFrom_19 : decode cX4_copyFrom 19 = .ok (.iconst 0, 1) := by decide +kernel
theorem dX4_copyFrom_20 : decode cX4_copyFrom 20 = .ok (.aload_n 0, 1) := by decide +kernel
theorem dX4_copyFrom_21 : decode cX4_copyFrom 21 = .ok (.getfield 15, 3) := by decide +kernel
theorem dX4_copyFrom_24 : decode cX4_copyFrom 24 = .ok (.iconst 0, 1) := by decide +kernel
theorem dX4_copyFrom_25 : decode cX4_copyFrom 25 = .ok (.bipush 8, 2) := by decide +kernel
theorem dX4_copyFrom_27 : decode cX4_copyFrom 27 = .ok (.invokestatic 38, 3) := by decide +kernel
theorem dX4_copyFrom_30 : decode cX4_copyFrom 30 = .ok (.aload_n 1, 1) := by decide +kernel
theorem dX4_copyFrom_31 : decode cX4_copyFrom 31 = .ok (.getfield 18, 3) := by decide +kernel
theorem dX4_copyFrom_34 : decode cX4_copyFrom 34 = .ok (.iconst 0, 1) := by decide +kernel
theorem dX4_copyFrom_35 : decode cX4_copyFrom 35 = .ok (.aload_n 0, 1) := by decide +kernel
theorem dX4_copyFrom_36 : decode cX4_copyFrom 36 = .ok (.getfield 18, 3) := by decide +kernel
theorem dX4_copyFrom_39 : decode cX4_copyFrom 39 = .ok (.iconst 0, 1) := by decide +kernel
theorem dX4_copyFrom_40 : decode cX4_copyFrom 40 = .ok (.bipush 8, 2) := by decide +kernel
theorem dX4_copyFrom_42 : decode cX4_copyFrom 42 = .ok (.invokestatic 38, 3) := by decide +kernel
theorem dX4_copyFrom_45 : decode cX4_copyFrom 45 = .ok (.aload_n 1, 1) := by decide +kernel
theorem dX4_copyFrom_46 : decode cX4_copyFrom 46 = .ok (.getfield 21, 3) := by decide +kernel
theorem dX4_copyFrom_49 : decode cX4_copyFrom 49 = .ok (.iconst 0, 1) := by decide +kernel
theorem dX4_copyFrom_50 : decode cX4_copyFrom 50 = .ok (.aload_n 0, 1) := by decide +kernel
theorem dX4_copyFrom_51 : decode cX4_copyFrom 51 = .ok (.getfield 21, 3) := by decide +kernel
theorem dX4_copyFrom_54 : decode cX4_copyFrom 54 = .ok (.iconst 0, 1) := by decide +kernel
theorem dX4_copyFrom_55 : decode cX4_copyFrom 55 = .ok (.bipush 8, 2) := by decide +kernel
theorem dX4_copyFrom_57 : decode cX4_copyFrom 57 = .ok (.invokestatic 38, 3) := by decide +kernel
theorem dX4_copyFrom_60 : decode cX4_copyFrom 60 = .ok (.aload_n 0, 1) := by decide +kernel
theorem dX4_copyFrom_61 : decode cX4_copyFrom 61 = .ok (.aload_n 1, 1) := by decide +kernel
theorem dX4_copyFrom_62 : decode cX4_copyFrom 62 = .ok (.getfield 24, 3) := by decide +kernel
theorem dX4_copyFrom_65 : decode cX4_copyFrom 65 = .ok (.putfield 24, 3) := by decide +kernel
theorem dX4_copyFrom_68 : decode cX4_copyFrom 68 = .ok (.return_, 1) := by decide +kernel
theorem dX5_init_0 : decode cX5_init 0 = .ok (.aload_n 0, 1) := by decide +kernel
theorem dX5_init_1 : decode cX5_init 1 = .ok (.invokespecial 3, 3) := by decide +kernel
theorem dX5_init_4 : decode cX5_init 4 = .ok (.aload_n 0, 1) := by decide +kernel
theorem dX5_init_5 : decode cX5_init 5 = .ok (.bipush 6, 2) := by decide +kernel
theorem dX5_init_7 : decode cX5_init 7 = .ok (.newarray .int, 2) := by decide +kernel
theorem dX5_init_9 : decode cX5_init 9 = .ok (.putfield 11, 3) := by decide +kernel
theorem dX5_init_12 : decode cX5_init 12 = .ok (.aload_n 0, 1) := by decide +kernel
theorem dX5_init_13 : decode cX5_init 13 = .ok (.bipush 6, 2) := by decide +kernel
theorem dX5_init_15 : decode cX5_init 15 = .ok (.newarray .int, 2) := by decide +kernel
theorem dX5_init_17 : decode cX5_init 17 = .ok (.putfield 15, 3) := by decide +kernel
theorem dX5_init_20 : decode cX5_init 20 = .ok (.aload_n 0, 1) := by decide +kernel
theorem dX5_init_21 : decode cX5_init 21 = .ok (.bipush 6, 2) := by decide +kernel
theorem dX5_init_23 : decode cX5_init 23 = .ok (.newarray .int, 2) := by decide +kernel
theorem dX5_init_25 : decode cX5_init 25 = .ok (.putfield 18, 3) := by decide +kernel
theorem dX5_init_28 : decode cX5_init 28 = .ok (.aload_n 0, 1) := by decide +kernel
theorem dX5_init_29 : decode cX5_init 29 = .ok (.bipush 6, 2) := by decide +kernel
theorem dX5_init_31 : decode cX5_init 31 = .ok (.newarray .int, 2) := by decide +kernel
theorem dX5_init_33 : decode cX5_init 33 = .ok (.putfield 21, 3) := by decide +kernel
theorem dX5_init_36 : decode cX5_init 36 = .ok (.return_, 1) := by decide +kernel
theorem dX5_solve_0 : decode cX5_solve 0 = .ok (.aload_n 0, 1) := by decide +kernel
theorem dX5_solve_1 : decode cX5_solve 1 = .ok (.iconst 0, 1) := by decide +kernel
theorem dX5_solve_2 : decode cX5_solve 2 = .ok (.putfield 24, 3) := by decide +kernel
theorem dX5_solve_5 : decode cX5_solve 5 = .ok (.aload_n 0, 1) := by decide +kernel
theorem dX5_solve_6 : decode cX5_solve 6 = .ok (.iconst 0, 1) := by decide +kernel
theorem dX5_solve_7 : decode cX5_solve 7 = .ok (.putfield 28, 3) := by decide +kernel
theorem dX5_solve_10 : decode cX5_solve 10 = .ok (.aload_n 0, 1) := by decide +kernel
theorem dX5_solve_11 : decode cX5_solve 11 = .ok (.iconst 0, 1) := by decide +kernel
theorem dX5_solve_12 : decode cX5_solve 12 = .ok (.putfield 31, 3) := by decide +kernel
theorem dX5_solve_15 : decode cX5_solve 15 = .ok (.aload_n 0, 1) := by decide +kernel
theorem dX5_solve_16 : decode cX5_solve 16 = .ok (.ldc 36, 2) := by decide +kernel
theorem dX5_solve_18 : decode cX5_solve 18 = .ok (.putfield 37, 3) := by decide +kernel
theorem dX5_solve_21 : decode cX5_solve 21 = .ok (.iconst 0, 1) := by decide +kernel
theorem dX5_solve_22 : decode cX5_solve 22 = .ok (.istore_n 3, 1) := by decide +kernel
theorem dX5_solve_23 : decode cX5_solve 23 = .ok (.iload_n 3, 1) := by decide +kernel
theorem dX5_solve_24 : decode cX5_solve 24 = .ok (.bipush 20, 2) := by decide +kernel
theorem dX5_solve_26 : decode cX5_solve 26 = .ok (.if_icmp .ge 32, 3) := by decide +kernel
theorem dX5_solve_29 : decode cX5_solve 29 = .ok (.aload_n 1, 1) := by decide +kernel
theorem dX5_solve_30 : decode cX5_solve 30 = .ok (.iload_n 3, 1) := by decide +kernel
theorem dX5_solve_31 : decode cX5_solve 31 = .ok (.iload_n 2, 1) := by decide +kernel
theorem dX5_solve_32 : decode cX5_solve 32 = .ok (.invokevirtual 40, 3) := by decide +kernel
theorem dX5_solve_35 : decode cX5_solve 35 = .ok (.ifCond .eq 17, 3) := by decide +kernel
theorem dX5_solve_38 : decode cX5_solve 38 = .ok (.aload_n 1, 1) := by decide +kernel
theorem dX5_solve_39 : decode cX5_solve 39 = .ok (.iload_n 3, 1) := by decide +kernel
theorem dX5_solve_40 : decode cX5_solve 40 = .ok (.invokevirtual 46, 3) := by decide +kernel
theorem dX5_solve_43 : decode cX5_solve 43 = .ok (.ifCond .eq 9, 3) := by decide +kernel
theorem dX5_solve_46 : decode cX5_solve 46 = .ok (.aload_n 0, 1) := by decide +kernel
theorem dX5_solve_47 : decode cX5_solve 47 = .ok (.aload_n 1, 1) := by decide +kernel
theorem dX5_solve_48 : decode cX5_solve 48 = .ok (.iload_n 3, 1) := by decide +kernel
theorem dX5_solve_49 : decode cX5_solve 49 = .ok (.invokevirtual 50, 3) := by decide +kernel
theorem dX5_solve_52 : decode cX5_solve 52 = .ok (.iinc 3 1, 3) := by decide +kernel
theorem dX5_solve_55 : decode cX5_solve 55 = .ok (.goto (-32), 3) := by decide +kernel
theorem dX5_solve_58 : decode cX5_solve 58 = .ok (.aload_n 0, 1) := by decide +kernel
theorem dX5_solve_59 : decode cX5_solve 59 = .ok (.aload_n 1, 1) := by decide +kernel
theorem dX5_solve_60 : decode cX5_solve 60 = .ok (.iconst 0, 1) := by decide +kernel
theorem dX5_solve_61 : decode cX5_solve 61 = .ok (.iconst 0, 1) := by decide +kernel
theorem dX5_solve_62 : decode cX5_solve 62 = .ok (.invokestatic 54, 3) := by decide +kernel
theorem dX5_solve_65 : decode cX5_solve 65 = .ok (.return_, 1) := by decide +kernel
theorem dX5_gain_0 : decode cX5_gain 0 = .ok (.aload_n 0, 1) := by decide +kernel
theorem dX5_gain_1 : decode cX5_gain 1 = .ok (.getfield 31, 3) := by decide +kernel
theorem dX5_gain_4 : decode cX5_gain 4 = .ok (.aload_n 0, 1) := by decide +kernel
theorem dX5_gain_5 : decode cX5_gain 5 = .ok (.getfield 37, 3) := by decide +kernel
theorem dX5_gain_8 : decode cX5_gain 8 = .ok (.isub, 1) := by decide +kernel
theorem dX5_gain_9 : decode cX5_gain 9 = .ok (.ireturn, 1) := by decide +kernel
theorem dX5_minuteFor_0 : decode cX5_minuteFor 0 = .ok (.iconst 0, 1) := by decide +kernel
theorem dX5_minuteFor_1 : decode cX5_minuteFor 1 = .ok (.istore_n 2, 1) := by decide +kernel
theorem dX5_minuteFor_2 : decode cX5_minuteFor 2 = .ok (.iload_n 2, 1) := by decide +kernel
theorem dX5_minuteFor_3 : decode cX5_minuteFor 3 = .ok (.aload_n 0, 1) := by decide +kernel
theorem dX5_minuteFor_4 : decode cX5_minuteFor 4 = .ok (.getfield 24, 3) := by decide +kernel
theorem dX5_minuteFor_7 : decode cX5_minuteFor 7 = .ok (.if_icmp .ge 32, 3) := by decide +kernel
theorem dX5_minuteFor_10 : decode cX5_minuteFor 10 = .ok (.iload_n 2, 1) := by decide +kernel
theorem dX5_minuteFor_11 : decode cX5_minuteFor 11 = .ok (.bipush 6, 2) := by decide +kernel
theorem dX5_minuteFor_13 : decode cX5_minuteFor 13 = .ok (.if_icmp .ge 26, 3) := by decide +kernel
theorem dX5_minuteFor_16 : decode cX5_minuteFor 16 = .ok (.aload_n 0, 1) := by decide +kernel
theorem dX5_minuteFor_17 : decode cX5_minuteFor 17 = .ok (.getfield 11, 3) := by decide +kernel
theorem dX5_minuteFor_20 : decode cX5_minuteFor 20 = .ok (.iload_n 2, 1) := by decide +kernel
theorem dX5_minuteFor_21 : decode cX5_minuteFor 21 = .ok (.iaload, 1) := by decide +kernel
theorem dX5_minuteFor_22 : decode cX5_minuteFor 22 = .ok (.iload_n 1, 1) := by decide +kernel
theorem dX5_minuteFor_23 : decode cX5_minuteFor 23 = .ok (.if_icmp .ne 10, 3) := by decide +kernel
theorem dX5_minuteFor_26 : decode cX5_minuteFor 26 = .ok (.aload_n 0, 1) := by decide +kernel
theorem dX5_minuteFor_27 : decode cX5_minuteFor 27 = .ok (.getfield 15, 3) := by decide +kernel
theorem dX5_minuteFor_30 : decode cX5_minuteFor 30 = .ok (.iload_n 2, 1) := by decide +kernel
theorem dX5_minuteFor_31 : decode cX5_minuteFor 31 = .ok (.iaload, 1) := by decide +kernel
theorem dX5_minuteFor_32 : decode cX5_minuteFor 32 = .ok (.ireturn, 1) := by decide +kernel
theorem dX5_minuteFor_33 : decode cX5_minuteFor 33 = .ok (.iinc 2 1, 3) := by decide +kernel
theorem dX5_minuteFor_36 : decode cX5_minuteFor 36 = .ok (.goto (-34), 3) := by decide +kernel
theorem dX5_minuteFor_39 : decode cX5_minuteFor 39 = .ok (.iconst (-1), 1) := by decide +kernel
theorem dX5_minuteFor_40 : decode cX5_minuteFor 40 = .ok (.ireturn, 1) := by decide +kernel
theorem dX5_gather_0 : decode cX5_gather 0 = .ok (.aload_n 0, 1) := by decide +kernel
theorem dX5_gather_1 : decode cX5_gather 1 = .ok (.getfield 24, 3) := by decide +kernel
theorem dX5_gather_4 : decode cX5_gather 4 = .ok (.ifCond .lt 12, 3) := by decide +kernel
theorem dX5_gather_7 : decode cX5_gather 7 = .ok (.aload_n 0, 1) := by decide +kernel
theorem dX5_gather_8 : decode cX5_gather 8 = .ok (.getfield 24, 3) := by decide +kernel
theorem dX5_gather_11 : decode cX5_gather 11 = .ok (.bipush 6, 2) := by decide +kernel
theorem dX5_gather_13 : decode cX5_gather 13 = .ok (.if_icmp .lt 4, 3) := by decide +kernel
theorem dX5_gather_16 : decode cX5_gather 16 = .ok (.return_, 1) := by decide +kernel
theorem dX5_gather_17 : decode cX5_gather 17 = .ok (.aload_n 1, 1) := by decide +kernel
theorem dX5_gather_18 : decode cX5_gather 18 = .ok (.getfield 58, 3) := by decide +kernel
theorem dX5_gather_21 : decode cX5_gather 21 = .ok (.iload_n 2, 1) := by decide +kernel
theorem dX5_gather_22 : decode cX5_gather 22 = .ok (.iaload, 1) := by decide +kernel
theorem dX5_gather_23 : decode cX5_gather 23 = .ok (.istore_n 3, 1) := by decide +kernel
theorem dX5_gather_24 : decode cX5_gather 24 = .ok (.aload_n 0, 1) := by decide +kernel
theorem dX5_gather_25 : decode cX5_gather 25 = .ok (.getfield 24, 3) := by decide +kernel
theorem dX5_gather_28 : decode cX5_gather 28 = .ok (.istore 4, 2) := by decide +kernel
theorem dX5_gather_30 : decode cX5_gather 30 = .ok (.iload 4, 2) := by decide +kernel
theorem dX5_gather_32 : decode cX5_gather 32 = .ok (.ifCond .le 38, 3) := by decide +kernel
theorem dX5_gather_35 : decode cX5_gather 35 = .ok (.aload_n 0, 1) := by decide +kernel
theorem dX5_gather_36 : decode cX5_gather 36 = .ok (.getfield 18, 3) := by decide +kernel
theorem dX5_gather_39 : decode cX5_gather 39 = .ok (.iload 4, 2) := by decide +kernel
theorem dX5_gather_41 : decode cX5_gather 41 = .ok (.iconst 1, 1) := by decide +kernel
theorem dX5_gather_42 : decode cX5_gather 42 = .ok (.isub, 1) := by decide +kernel
theorem dX5_gather_43 : decode cX5_gather 43 = .ok (.iaload, 1) := by decide +kernel
theorem dX5_gather_44 : decode cX5_gather 44 = .ok (.iload_n 3, 1) := by decide +kernel
theorem dX5_gather_45 : decode cX5_gather 45 = .ok (.if_icmp .le 25, 3) := by decide +kernel
theorem dX5_gather_48 : decode cX5_gather 48 = .ok (.aload_n 0, 1) := by decide +kernel
theorem dX5_gather_49 : decode cX5_gather 49 = .ok (.getfield 18, 3) := by decide +kernel
theorem dX5_gather_52 : decode cX5_gather 52 = .ok (.iload 4, 2) := by decide +kernel
theorem dX5_gather_54 : decode cX5_gather 54 = .ok (.aload_n 0, 1) := by decide +kernel
theorem dX5_gather_55 : decode cX5_gather 55 = .ok (.getfield 18, 3) := by decide +kernel
theorem dX5_gather_58 : decode cX5_gather 58 = .ok (.iload 4, 2) := by decide +kernel
theorem dX5_gather_60 : decode cX5_gather 60 = .ok (.iconst 1, 1) := by decide +kernel
theorem dX5_gather_61 : decode cX5_gather 61 = .ok (.isub, 1) := by decide +kernel
theorem dX5_gather_62 : decode cX5_gather 62 = .ok (.iaload, 1) := by decide +kernel
theorem dX5_gather_63 : decode cX5_gather 63 = .ok (.iastore, 1) := by decide +kernel
theorem dX5_gather_64 : decode cX5_gather 64 = .ok (.iinc 4 (-1), 3) := by decide +kernel
theorem dX5_gather_67 : decode cX5_gather 67 = .ok (.goto (-37), 3) := by decide +kernel
theorem dX5_gather_70 : decode cX5_gather 70 = .ok (.aload_n 0, 1) := by decide +kernel
theorem dX5_gather_71 : decode cX5_gather 71 = .ok (.getfield 18, 3) := by decide +kernel
theorem dX5_gather_74 : decode cX5_gather 74 = .ok (.iload 4, 2) := by decide +kernel
theorem dX5_gather_76 : decode cX5_gather 76 = .ok (.iload_n 3, 1) := by decide +kernel
theorem dX5_gather_77 : decode cX5_gather 77 = .ok (.iastore, 1) := by decide +kernel
theorem dX5_gather_78 : decode cX5_gather 78 = .ok (.aload_n 0, 1) := by decide +kernel
theorem dX5_gather_79 : decode cX5_gather 79 = .ok (.getfield 11, 3) := by decide +kernel
theorem dX5_gather_82 : decode cX5_gather 82 = .ok (.aload_n 0, 1) := by decide +kernel
theorem dX5_gather_83 : decode cX5_gather 83 = .ok (.getfield 24, 3) := by decide +kernel
theorem dX5_gather_86 : decode cX5_gather 86 = .ok (.iload_n 2, 1) := by decide +kernel
theorem dX5_gather_87 : decode cX5_gather 87 = .ok (.iastore, 1) := by decide +kernel
theorem dX5_gather_88 : decode cX5_gather 88 = .ok (.aload_n 0, 1) := by decide +kernel
theorem dX5_gather_89 : decode cX5_gather 89 = .ok (.dup, 1) := by decide +kernel
theorem dX5_gather_90 : decode cX5_gather 90 = .ok (.getfield 31, 3) := by decide +kernel
theorem dX5_gather_93 : decode cX5_gather 93 = .ok (.aload_n 1, 1) := by decide +kernel
theorem dX5_gather_94 : decode cX5_gather 94 = .ok (.iload_n 2, 1) := by decide +kernel
theorem dX5_gather_95 : decode cX5_gather 95 = .ok (.invokevirtual 61, 3) := by decide +kernel
theorem dX5_gather_98 : decode cX5_gather 98 = .ok (.iadd, 1) := by decide +kernel
theorem dX5_gather_99 : decode cX5_gather 99 = .ok (.putfield 31, 3) := by decide +kernel
theorem dX5_gather_102 : decode cX5_gather 102 = .ok (.aload_n 0, 1) := by decide +kernel
theorem dX5_gather_103 : decode cX5_gather 103 = .ok (.dup, 1) := by decide +kernel
theorem dX5_gather_104 : decode cX5_gather 104 = .ok (.getfield 24, 3) := by decide +kernel
theorem dX5_gather_107 : decode cX5_gather 107 = .ok (.iconst 1, 1) := by decide +kernel
theorem dX5_gather_108 : decode cX5_gather 108 = .ok (.iadd, 1) := by decide +kernel
theorem dX5_gather_109 : decode cX5_gather 109 = .ok (.putfield 24, 3) := by decide +kernel
theorem dX5_gather_112 : decode cX5_gather 112 = .ok (.return_, 1) := by decide +kernel
theorem dX5_lay_0 : decode cX5_lay 0 = .ok (.iload_n 3, 1) := by decide +kernel
theorem dX5_lay_1 : decode cX5_lay 1 = .ok (.aload_n 0, 1) := by decide +kernel
theorem dX5_lay_2 : decode cX5_lay 2 = .ok (.getfield 37, 3) := by decide +kernel
theorem dX5_lay_5 : decode cX5_lay 5 = .ok (.if_icmp .ge 7, 3) := by decide +kernel
theorem dX5_lay_8 : decode cX5_lay 8 = .ok (.iload_n 2, 1) := by decide +kernel
theorem dX5_lay_9 : decode cX5_lay 9 = .ok (.ifCond .ge 4, 3) := by decide +kernel
theorem dX5_lay_12 : decode cX5_lay 12 = .ok (.return_, 1) := by decide +kernel
theorem dX5_lay_13 : decode cX5_lay 13 = .ok (.iload_n 2, 1) := by decide +kernel
theorem dX5_lay_14 : decode cX5_lay 14 = .ok (.aload_n 0, 1) := by decide +kernel
theorem dX5_lay_15 : decode cX5_lay 15 = .ok (.getfield 24, 3) := by decide +kernel
theorem dX5_lay_18 : decode cX5_lay 18 = .ok (.if_icmp .ge 9, 3) := by decide +kernel
theorem dX5_lay_21 : decode cX5_lay 21 = .ok (.iload_n 2, 1) := by decide +kernel
theorem dX5_lay_22 : decode cX5_lay 22 = .ok (.bipush 6, 2) := by decide +kernel
theorem dX5_lay_24 : decode cX5_lay 24 = .ok (.if_icmp .lt 24, 3) := by decide +kernel
theorem dX5_lay_27 : decode cX5_lay 27 = .ok (.aload_n 0, 1) := by decide +kernel
theorem dX5_lay_28 : decode cX5_lay 28 = .ok (.iload_n 3, 1) := by decide +kernel
theorem dX5_lay_29 : decode cX5_lay 29 = .ok (.putfield 37, 3) := by decide +kernel
theorem dX5_lay_32 : decode cX5_lay 32 = .ok (.aload_n 0, 1) := by decide +kernel
theorem dX5_lay_33 : decode cX5_lay 33 = .ok (.getfield 21, 3) := by decide +kernel
theorem dX5_lay_36 : decode cX5_lay 36 = .ok (.iconst 0, 1) := by decide +kernel
theorem dX5_lay_37 : decode cX5_lay 37 = .ok (.aload_n 0, 1) := by decide +kernel
theorem dX5_lay_38 : decode cX5_lay 38 = .ok (.getfield 15, 3) := by decide +kernel
theorem dX5_lay_41 : decode cX5_lay 41 = .ok (.iconst 0, 1) := by decide +kernel
theorem dX5_lay_42 : decode cX5_lay 42 = .ok (.bipush 6, 2) := by decide +kernel
theorem dX5_lay_44 : decode cX5_lay 44 = .ok (.invokestatic 65, 3) := by decide +kernel
theorem dX5_lay_47 : decode cX5_lay 47 = .ok (.return_, 1) := by decide +kernel
theorem dX5_lay_48 : decode cX5_lay 48 = .ok (.aload_n 0, 1) := by decide +kernel
theorem dX5_lay_49 : decode cX5_lay 49 = .ok (.getfield 11, 3) := by decide +kernel
theorem dX5_lay_52 : decode cX5_lay 52 = .ok (.iload_n 2, 1) := by decide +kernel
theorem dX5_lay_53 : decode cX5_lay 53 = .ok (.iaload, 1) := by decide +kernel
theorem dX5_lay_54 : decode cX5_lay 54 = .ok (.istore 4, 2) := by decide +kernel
theorem dX5_lay_56 : decode cX5_lay 56 = .ok (.iconst 0, 1) := by decide +kernel
theorem dX5_lay_57 : decode cX5_lay 57 = .ok (.istore 5, 2) := by decide +kernel
theorem dX5_lay_59 : decode cX5_lay 59 = .ok (.iload 5, 2) := by decide +kernel
theorem dX5_lay_61 : decode cX5_lay 61 = .ok (.aload_n 0, 1) := by decide +kernel
theorem dX5_lay_62 : decode cX5_lay 62 = .ok (.getfield 24, 3) := by decide +kernel
theorem dX5_lay_65 : decode cX5_lay 65 = .ok (.if_icmp .ge 105, 3) := by decide +kernel
theorem dX5_lay_68 : decode cX5_lay 68 = .ok (.iload 5, 2) := by decide +kernel
theorem dX5_lay_70 : decode cX5_lay 70 = .ok (.bipush 6, 2) := by decide +kernel
theorem dX5_lay_72 : decode cX5_lay 72 = .ok (.if_icmp .ge 98, 3) := by decide +kernel
theorem dX5_lay_75 : decode cX5_lay 75 = .ok (.iconst 1, 1) := by decide +kernel
theorem dX5_lay_76 : decode cX5_lay 76 = .ok (.iload 5, 2) := by decide +kernel
theorem dX5_lay_78 : decode cX5_lay 78 = .ok (.ishl, 1) := by decide +kernel
theorem dX5_lay_79 : decode cX5_lay 79 = .ok (.istore 6, 2) := by decide +kernel
theorem dX5_lay_81 : decode cX5_lay 81 = .ok (.aload_n 0, 1) := by decide +kernel
theorem dX5_lay_82 : decode cX5_lay 82 = .ok (.getfield 18, 3) := by decide +kernel
theorem dX5_lay_85 : decode cX5_lay 85 = .ok (.iload 5, 2) := by decide +kernel
theorem dX5_lay_87 : decode cX5_lay 87 = .ok (.iaload, 1) := by decide +kernel
theorem dX5_lay_88 : decode cX5_lay 88 = .ok (.istore 7, 2) := by decide +kernel
theorem dX5_lay_90 : decode cX5_lay 90 = .ok (.aload_n 0, 1) := by decide +kernel
theorem dX5_lay_91 : decode cX5_lay 91 = .ok (.getfield 28, 3) := by decide +kernel
theorem dX5_lay_94 : decode cX5_lay 94 = .ok (.iload 6, 2) := by decide +kernel
theorem dX5_lay_96 : decode cX5_lay 96 = .ok (.iand, 1) := by decide +kernel
theorem dX5_lay_97 : decode cX5_lay 97 = .ok (.ifCond .ne 67, 3) := by decide +kernel
theorem dX5_lay_100 : decode cX5_lay 100 = .ok (.iload 7, 2) := by decide +kernel
theorem dX5_lay_102 : decode cX5_lay 102 = .ok (.aload_n 1, 1) := by decide +kernel
theorem dX5_lay_103 : decode cX5_lay 103 = .ok (.iload 4, 2) := by decide +kernel
theorem dX5_lay_105 : decode cX5_lay 105 = .ok (.invokevirtual 71, 3) := by decide +kernel
theorem dX5_lay_108 : decode cX5_lay 108 = .ok (.if_icmp .ge 6, 3) := by decide +kernel
theorem dX5_lay_111 : decode cX5_lay 111 = .ok (.goto 53, 3) := by decide +kernel
theorem dX5_lay_114 : decode cX5_lay 114 = .ok (.aload_n 0, 1) := by decide +kernel
theorem dX5_lay_115 : decode cX5_lay 115 = .ok (.getfield 21, 3) := by decide +kernel
theorem dX5_lay_118 : decode cX5_lay 118 = .ok (.iload_n 2, 1) := by decide +kernel
theorem dX5_lay_119 : decode cX5_lay 119 = .ok (.iload 7, 2) := by decide +kernel
theorem dX5_lay_121 : decode cX5_lay 121 = .ok (.iastore, 1) := by decide +kernel
theorem dX5_lay_122 : decode cX5_lay 122 = .ok (.aload_n 0, 1) := by decide +kernel
theorem dX5_lay_123 : decode cX5_lay 123 = .ok (.dup, 1) := by decide +kernel
theorem dX5_lay_124 : decode cX5_lay 124 = .ok (.getfield 28, 3) := by decide +kernel
theorem dX5_lay_127 : decode cX5_lay 127 = .ok (.iload 6, 2) := by decide +kernel
theorem dX5_lay_129 : decode cX5_lay 129 = .ok (.ior, 1) := by decide +kernel
theorem dX5_lay_130 : decode cX5_lay 130 = .ok (.putfield 28, 3) := by decide +kernel
theorem dX5_lay_133 : decode cX5_lay 133 = .ok (.aload_n 0, 1) := by decide +kernel
theorem dX5_lay_134 : decode cX5_lay 134 = .ok (.aload_n 1, 1) := by decide +kernel
theorem dX5_lay_135 : decode cX5_lay 135 = .ok (.iload_n 2, 1) := by decide +kernel
theorem dX5_lay_136 : decode cX5_lay 136 = .ok (.iconst 1, 1) := by decide +kernel
theorem dX5_lay_137 : decode cX5_lay 137 = .ok (.iadd, 1) := by decide +kernel
theorem dX5_lay_138 : decode cX5_lay 138 = .ok (.iload_n 3, 1) := by decide +kernel
theorem dX5_lay_139 : decode cX5_lay 139 = .ok (.aload_n 1, 1) := by decide +kernel
theorem dX5_lay_140 : decode cX5_lay 140 = .ok (.iload 4, 2) := by decide +kernel
theorem dX5_lay_142 : decode cX5_lay 142 = .ok (.iload 7, 2) := by decide +kernel
theorem dX5_lay_144 : decode cX5_lay 144 = .ok (.invokevirtual 74, 3) := by decide +kernel
theorem dX5_lay_147 : decode cX5_lay 147 = .ok (.iadd, 1) := by decide +kernel
theorem dX5_lay_148 : decode cX5_lay 148 = .ok (.invokestatic 54, 3) := by decide +kernel
theorem dX5_lay_151 : decode cX5_lay 151 = .ok (.aload_n 0, 1) := by decide +kernel
theorem dX5_lay_152 : decode cX5_lay 152 = .ok (.dup, 1) := by decide +kernel
theorem dX5_lay_153 : decode cX5_lay 153 = .ok (.getfield 28, 3) := by decide +kernel
theorem dX5_lay_156 : decode cX5_lay 156 = .ok (.iload 6, 2) := by decide +kernel
theorem dX5_lay_158 : decode cX5_lay 158 = .ok (.iconst (-1), 1) := by decide +kernel
theorem dX5_lay_159 : decode cX5_lay 159 = .ok (.ixor, 1) := by decide +kernel
theorem dX5_lay_160 : decode cX5_lay 160 = .ok (.iand, 1) := by decide +kernel
theorem dX5_lay_161 : decode cX5_lay 161 = .ok (.putfield 28, 3) := by decide +kernel
theorem dX5_lay_164 : decode cX5_lay 164 = .ok (.iinc 5 1, 3) := by decide +kernel
theorem dX5_lay_167 : decode cX5_lay 167 = .ok (.goto (-108), 3) := by decide +kernel
theorem dX5_lay_170 : decode cX5_lay 170 = .ok (.return_, 1) := by decide +kernel
theorem dX6_init_0 : decode cX6_init 0 = .ok (.aload_n 0, 1) := by decide +kernel
theorem dX6_init_1 : decode cX6_init 1 = .ok (.invokespecial 3, 3) := by decide +kernel
theorem dX6_init_4 : decode cX6_init 4 = .ok (.aload_n 0, 1) := by decide +kernel
theorem dX6_init_5 : decode cX6_init 5 = .ok (.bipush 20, 2) := by decide +kernel
theorem dX6_init_7 : decode cX6_init 7 = .ok (.newarray .int, 2) := by decide +kernel
theorem dX6_init_9 : decode cX6_init 9 = .ok (.putfield 9, 3) := by decide +kernel
theorem dX6_init_12 : decode cX6_init 12 = .ok (.aload_n 0, 1) := by decide +kernel
theorem dX6_init_13 : decode cX6_init 13 = .ok (.sipush 1200, 3) := by decide +kernel
theorem dX6_init_16 : decode cX6_init 16 = .ok (.newarray .int, 2) := by decide +kernel
theorem dX6_init_18 : decode cX6_init 18 = .ok (.putfield 15, 3) := by decide +kernel
theorem dX6_init_21 : decode cX6_init 21 = .ok (.return_, 1) := by decide +kernel
theorem dX6_planAnew_0 : decode cX6_planAnew 0 = .ok (.aload_n 0, 1) := by decide +kernel
theorem dX6_planAnew_1 : decode cX6_planAnew 1 = .ok (.dup, 1) := by decide +kernel
theorem dX6_planAnew_2 : decode cX6_planAnew 2 = .ok (.getfield 18, 3) := by decide +kernel
theorem dX6_planAnew_5 : decode cX6_planAnew 5 = .ok (.iconst 1, 1) := by decide +kernel
theorem dX6_planAnew_6 : decode cX6_planAnew 6 = .ok (.iadd, 1) := by decide +kernel
theorem dX6_planAnew_7 : decode cX6_planAnew 7 = .ok (.putfield 18, 3) := by decide +kernel
theorem dX6_planAnew_10 : decode cX6_planAnew 10 = .ok (.aload_n 1, 1) := by decide +kernel
theorem dX6_planAnew_11 : decode cX6_planAnew 11 = .ok (.invokevirtual 22, 3) := by decide +kernel
theorem dX6_planAnew_14 : decode cX6_planAnew 14 = .ok (.aload_n 0, 1) := by decide +kernel
theorem dX6_planAnew_15 : decode cX6_planAnew 15 = .ok (.iconst 0, 1) := by decide +kernel
theorem dX6_planAnew_16 : decode cX6_planAnew 16 = .ok (.putfield 27, 3) := by decide +kernel
theorem dX6_planAnew_19 : decode cX6_planAnew 19 = .ok (.iconst 0, 1) := by decide +kernel
theorem dX6_planAnew_20 : decode cX6_planAnew 20 = .ok (.istore_n 3, 1) := by decide +kernel
theorem dX6_planAnew_21 : decode cX6_planAnew 21 = .ok (.iload_n 3, 1) := by decide +kernel
theorem dX6_planAnew_22 : decode cX6_planAnew 22 = .ok (.bipush 20, 2) := by decide +kernel
theorem dX6_planAnew_24 : decode cX6_planAnew 24 = .ok (.if_icmp .ge 43, 3) := by decide +kernel
theorem dX6_planAnew_27 : decode cX6_planAnew 27 = .ok (.aload_n 1, 1) := by decide +kernel
theorem dX6_planAnew_28 : decode cX6_planAnew 28 = .ok (.iload_n 3, 1) := by decide +kernel
theorem dX6_planAnew_29 : decode cX6_planAnew 29 = .ok (.invokevirtual 30, 3) := by decide +kernel
theorem dX6_planAnew_32 : decode cX6_planAnew 32 = .ok (.ifCond .eq 29, 3) := by decide +kernel
theorem dX6_planAnew_35 : decode cX6_planAnew 35 = .ok (.aload_n 1, 1) := by decide +kernel
theorem dX6_planAnew_36 : decode cX6_planAnew 36 = .ok (.iload_n 3, 1) := by decide +kernel
theorem dX6_planAnew_37 : decode cX6_planAnew 37 = .ok (.invokevirtual 34, 3) := by decide +kernel
theorem dX6_planAnew_40 : decode cX6_planAnew 40 = .ok (.aload_n 1, 1) := by decide +kernel
theorem dX6_planAnew_41 : decode cX6_planAnew 41 = .ok (.getfield 38, 3) := by decide +kernel
theorem dX6_planAnew_44 : decode cX6_planAnew 44 = .ok (.if_icmp .gt 17, 3) := by decide +kernel
theorem dX6_planAnew_47 : decode cX6_planAnew 47 = .ok (.aload_n 0, 1) := by decide +kernel
theorem dX6_planAnew_48 : decode cX6_planAnew 48 = .ok (.aload_n 1, 1) := by decide +kernel
theorem dX6_planAnew_49 : decode cX6_planAnew 49 = .ok (.getfield 41, 3) := by decide +kernel
theorem dX6_planAnew_52 : decode cX6_planAnew 52 = .ok (.getfield 45, 3) := by decide +kernel
theorem dX6_planAnew_55 : decode cX6_planAnew 55 = .ok (.iload_n 3, 1) := by decide +kernel
theorem dX6_planAnew_56 : decode cX6_planAnew 56 = .ok (.iaload, 1) := by decide +kernel
theorem dX6_planAnew_57 : decode cX6_planAnew 57 = .ok (.iload_n 3, 1) := by decide +kernel
theorem dX6_planAnew_58 : decode cX6_planAnew 58 = .ok (.invokevirtual 50, 3) := by decide +kernel
theorem dX6_planAnew_61 : decode cX6_planAnew 61 = .ok (.iinc 3 1, 3) := by decide +kernel
theorem dX6_planAnew_64 : decode cX6_planAnew 64 = .ok (.goto (-43), 3) := by decide +kernel
theorem dX6_planAnew_67 : decode cX6_planAnew 67 = .ok (.aload_n 0, 1) := by decide +kernel
theorem dX6_planAnew_68 : decode cX6_planAnew 68 = .ok (.aload_n 1, 1) := by decide +kernel
theorem dX6_planAnew_69 : decode cX6_planAnew 69 = .ok (.iconst 0, 1) := by decide +kernel
theorem dX6_planAnew_70 : decode cX6_planAnew 70 = .ok (.invokevirtual 54, 3) := by decide +kernel
theorem dX6_planAnew_73 : decode cX6_planAnew 73 = .ok (.pop, 1) := by decide +kernel
theorem dX6_planAnew_74 : decode cX6_planAnew 74 = .ok (.aload_n 0, 1) := by decide +kernel
theorem dX6_planAnew_75 : decode cX6_planAnew 75 = .ok (.iconst 0, 1) := by decide +kernel
theorem dX6_planAnew_76 : decode cX6_planAnew 76 = .ok (.putfield 27, 3) := by decide +kernel
theorem dX6_planAnew_79 : decode cX6_planAnew 79 = .ok (.iconst 0, 1) := by decide +kernel
theorem dX6_planAnew_80 : decode cX6_planAnew 80 = .ok (.istore_n 3, 1) := by decide +kernel
theorem dX6_planAnew_81 : decode cX6_planAnew 81 = .ok (.iload_n 3, 1) := by decide +kernel
theorem dX6_planAnew_82 : decode cX6_planAnew 82 = .ok (.bipush 20, 2) := by decide +kernel
theorem dX6_planAnew_84 : decode cX6_planAnew 84 = .ok (.if_icmp .ge 41, 3) := by decide +kernel
theorem dX6_planAnew_87 : decode cX6_planAnew 87 = .ok (.aload_n 1, 1) := by decide +kernel
theorem dX6_planAnew_88 : decode cX6_planAnew 88 = .ok (.iload_n 3, 1) := by decide +kernel
theorem dX6_planAnew_89 : decode cX6_planAnew 89 = .ok (.invokevirtual 30, 3) := by decide +kernel
theorem dX6_planAnew_92 : decode cX6_planAnew 92 = .ok (.ifCond .eq 27, 3) := by decide +kernel
theorem dX6_planAnew_95 : decode cX6_planAnew 95 = .ok (.aload_n 1, 1) := by decide +kernel
theorem dX6_planAnew_96 : decode cX6_planAnew 96 = .ok (.iload_n 3, 1) := by decide +kernel
theorem dX6_planAnew_97 : decode cX6_planAnew 97 = .ok (.invokevirtual 34, 3) := by decide +kernel
theorem dX6_planAnew_100 : decode cX6_planAnew 100 = .ok (.aload_n 1, 1) := by decide +kernel
theorem dX6_planAnew_101 : decode cX6_planAnew 101 = .ok (.getfield 38, 3) := by decide +kernel
theorem dX6_planAnew_104 : decode cX6_planAnew 104 = .ok (.if_icmp .le 15, 3) := by decide +kernel
theorem dX6_planAnew_107 : decode cX6_planAnew 107 = .ok (.aload_n 0, 1) := by decide +kernel
theorem dX6_planAnew_108 : decode cX6_planAnew 108 = .ok (.aload_n 0, 1) := by decide +kernel
theorem dX6_planAnew_109 : decode cX6_planAnew 109 = .ok (.aload_n 1, 1) := by decide +kernel
theorem dX6_planAnew_110 : decode cX6_planAnew 110 = .ok (.iload_n 3, 1) := by decide +kernel
theorem dX6_planAnew_111 : decode cX6_planAnew 111 = .ok (.iload_n 2, 1) := by decide +kernel
theorem dX6_planAnew_112 : decode cX6_planAnew 112 = .ok (.invokevirtual 58, 3) := by decide +kernel
theorem dX6_planAnew_115 : decode cX6_planAnew 115 = .ok (.iload_n 3, 1) := by decide +kernel
theorem dX6_planAnew_116 : decode cX6_planAnew 116 = .ok (.invokevirtual 50, 3) := by decide +kernel
theorem dX6_planAnew_119 : decode cX6_planAnew 119 = .ok (.iinc 3 1, 3) := by decide +kernel
theorem dX6_planAnew_122 : decode cX6_planAnew 122 = .ok (.goto (-41), 3) := by decide +kernel
theorem dX6_planAnew_125 : decode cX6_planAnew 125 = .ok (.aload_n 0, 1) := by decide +kernel
theorem dX6_planAnew_126 : decode cX6_planAnew 126 = .ok (.aload_n 1, 1) := by decide +kernel
theorem dX6_planAnew_127 : decode cX6_planAnew 127 = .ok (.invokevirtual 62, 3) := by decide +kernel
theorem dX6_planAnew_130 : decode cX6_planAnew 130 = .ok (.pop, 1) := by decide +kernel
theorem dX6_planAnew_131 : decode cX6_planAnew 131 = .ok (.aload_n 1, 1) := by decide +kernel
theorem dX6_planAnew_132 : decode cX6_planAnew 132 = .ok (.iconst 1, 1) := by decide +kernel
theorem dX6_planAnew_133 : decode cX6_planAnew 133 = .ok (.putfield 66, 3) := by decide +kernel
theorem dX6_planAnew_136 : decode cX6_planAnew 136 = .ok (.return_, 1) := by decide +kernel
theorem dX6_planOn_0 : decode cX6_planOn 0 = .ok (.aload_n 0, 1) := by decide +kernel
theorem dX6_planOn_1 : decode cX6_planOn 1 = .ok (.dup, 1) := by decide +kernel
theorem dX6_planOn_2 : decode cX6_planOn 2 = .ok (.getfield 18, 3) := by decide +kernel
theorem dX6_planOn_5 : decode cX6_planOn 5 = .ok (.iconst 1, 1) := by decide +kernel
theorem dX6_planOn_6 : decode cX6_planOn 6 = .ok (.iadd, 1) := by decide +kernel
theorem dX6_planOn_7 : decode cX6_planOn 7 = .ok (.putfield 18, 3) := by decide +kernel
theorem dX6_planOn_10 : decode cX6_planOn 10 = .ok (.aload_n 0, 1) := by decide +kernel
theorem dX6_planOn_11 : decode cX6_planOn 11 = .ok (.iconst 0, 1) := by decide +kernel
theorem dX6_planOn_12 : decode cX6_planOn 12 = .ok (.putfield 27, 3) := by decide +kernel
theorem dX6_planOn_15 : decode cX6_planOn 15 = .ok (.iconst 0, 1) := by decide +kernel
theorem dX6_planOn_16 : decode cX6_planOn 16 = .ok (.istore_n 2, 1) := by decide +kernel
theorem dX6_planOn_17 : decode cX6_planOn 17 = .ok (.iload_n 2, 1) := by decide +kernel
theorem dX6_planOn_18 : decode cX6_planOn 18 = .ok (.bipush 20, 2) := by decide +kernel
theorem dX6_planOn_20 : decode cX6_planOn 20 = .ok (.if_icmp .ge 67, 3) := by decide +kernel
theorem dX6_planOn_23 : decode cX6_planOn 23 = .ok (.aload_n 1, 1) := by decide +kernel
theorem dX6_planOn_24 : decode cX6_planOn 24 = .ok (.iload_n 2, 1) := by decide +kernel
theorem dX6_planOn_25 : decode cX6_planOn 25 = .ok (.invokevirtual 70, 3) := by decide +kernel
theorem dX6_planOn_28 : decode cX6_planOn 28 = .ok (.ifCond .ne 6, 3) := by decide +kernel
theorem dX6_planOn_31 : decode cX6_planOn 31 = .ok (.goto 50, 3) := by decide +kernel
theorem dX6_planOn_34 : decode cX6_planOn 34 = .ok (.aload_n 1, 1) := by decide +kernel
theorem dX6_planOn_35 : decode cX6_planOn 35 = .ok (.getfield 73, 3) := by decide +kernel
theorem dX6_planOn_38 : decode cX6_planOn 38 = .ok (.iload_n 2, 1) := by decide +kernel
theorem dX6_planOn_39 : decode cX6_planOn 39 = .ok (.iaload, 1) := by decide +kernel
theorem dX6_planOn_40 : decode cX6_planOn 40 = .ok (.aload_n 1, 1) := by decide +kernel
theorem dX6_planOn_41 : decode cX6_planOn 41 = .ok (.getfield 38, 3) := by decide +kernel
theorem dX6_planOn_44 : decode cX6_planOn 44 = .ok (.if_icmp .gt 16, 3) := by decide +kernel
theorem dX6_planOn_47 : decode cX6_planOn 47 = .ok (.aload_n 0, 1) := by decide +kernel
theorem dX6_planOn_48 : decode cX6_planOn 48 = .ok (.aload_n 1, 1) := by decide +kernel
theorem dX6_planOn_49 : decode cX6_planOn 49 = .ok (.getfield 73, 3) := by decide +kernel
theorem dX6_planOn_52 : decode cX6_planOn 52 = .ok (.iload_n 2, 1) := by decide +kernel
theorem dX6_planOn_53 : decode cX6_planOn 53 = .ok (.iaload, 1) := by decide +kernel
theorem dX6_planOn_54 : decode cX6_planOn 54 = .ok (.invokevirtual 76, 3) := by decide +kernel
theorem dX6_planOn_57 : decode cX6_planOn 57 = .ok (.goto 24, 3) := by decide +kernel
theorem dX6_planOn_60 : decode cX6_planOn 60 = .ok (.aload_n 0, 1) := by decide +kernel
theorem dX6_planOn_61 : decode cX6_planOn 61 = .ok (.aload_n 1, 1) := by decide +kernel
theorem dX6_planOn_62 : decode cX6_planOn 62 = .ok (.getfield 41, 3) := by decide +kernel
theorem dX6_planOn_65 : decode cX6_planOn 65 = .ok (.getfield 45, 3) := by decide +kernel
theorem dX6_planOn_68 : decode cX6_planOn 68 = .ok (.iload_n 2, 1) := by decide +kernel
theorem dX6_planOn_69 : decode cX6_planOn 69 = .ok (.iaload, 1) := by decide +kernel
theorem dX6_planOn_70 : decode cX6_planOn 70 = .ok (.aload_n 1, 1) := by decide +kernel
theorem dX6_planOn_71 : decode cX6_planOn 71 = .ok (.getfield 80, 3) := by decide +kernel
theorem dX6_planOn_74 : decode cX6_planOn 74 = .ok (.iload_n 2, 1) := by decide +kernel
theorem dX6_planOn_75 : decode cX6_planOn 75 = .ok (.iaload, 1) := by decide +kernel
theorem dX6_planOn_76 : decode cX6_planOn 76 = .ok (.iadd, 1) := by decide +kernel
theorem dX6_planOn_77 : decode cX6_planOn 77 = .ok (.iload_n 2, 1) := by decide +kernel
theorem dX6_planOn_78 : decode cX6_planOn 78 = .ok (.invokevirtual 50, 3) := by decide +kernel
theorem dX6_planOn_81 : decode cX6_planOn 81 = .ok (.iinc 2 1, 3) := by decide +kernel
theorem dX6_planOn_84 : decode cX6_planOn 84 = .ok (.goto (-67), 3) := by decide +kernel
theorem dX6_planOn_87 : decode cX6_planOn 87 = .ok (.aload_n 0, 1) := by decide +kernel
theorem dX6_planOn_88 : decode cX6_planOn 88 = .ok (.aload_n 1, 1) := by decide +kernel
theorem dX6_planOn_89 : decode cX6_planOn 89 = .ok (.aload_n 1, 1) := by decide +kernel
theorem dX6_planOn_90 : decode cX6_planOn 90 = .ok (.getfield 38, 3) := by decide +kernel
theorem dX6_planOn_93 : decode cX6_planOn 93 = .ok (.iconst 1, 1) := by decide +kernel
theorem dX6_planOn_94 : decode cX6_planOn 94 = .ok (.iadd, 1) := by decide +kernel
theorem dX6_planOn_95 : decode cX6_planOn 95 = .ok (.invokevirtual 54, 3) := by decide +kernel
theorem dX6_planOn_98 : decode cX6_planOn 98 = .ok (.istore_n 2, 1) := by decide +kernel
theorem dX6_planOn_99 : decode cX6_planOn 99 = .ok (.aload_n 0, 1) := by decide +kernel
theorem dX6_planOn_100 : decode cX6_planOn 100 = .ok (.iconst 0, 1) := by decide +kernel
theorem dX6_planOn_101 : decode cX6_planOn 101 = .ok (.putfield 27, 3) := by decide +kernel
theorem dX6_planOn_104 : decode cX6_planOn 104 = .ok (.iconst 0, 1) := by decide +kernel
theorem dX6_planOn_105 : decode cX6_planOn 105 = .ok (.istore_n 3, 1) := by decide +kernel
theorem dX6_planOn_106 : decode cX6_planOn 106 = .ok (.iload_n 3, 1) := by decide +kernel
theorem dX6_planOn_107 : decode cX6_planOn 107 = .ok (.bipush 20, 2) := by decide +kernel
theorem dX6_planOn_109 : decode cX6_planOn 109 = .ok (.if_icmp .ge 47, 3) := by decide +kernel
theorem dX6_planOn_112 : decode cX6_planOn 112 = .ok (.aload_n 1, 1) := by decide +kernel
theorem dX6_planOn_113 : decode cX6_planOn 113 = .ok (.iload_n 3, 1) := by decide +kernel
theorem dX6_planOn_114 : decode cX6_planOn 114 = .ok (.invokevirtual 30, 3) := by decide +kernel
theorem dX6_planOn_117 : decode cX6_planOn 117 = .ok (.ifCond .eq 33, 3) := by decide +kernel
theorem dX6_planOn_120 : decode cX6_planOn 120 = .ok (.aload_n 1, 1) := by decide +kernel
theorem dX6_planOn_121 : decode cX6_planOn 121 = .ok (.iload_n 3, 1) := by decide +kernel
theorem dX6_planOn_122 : decode cX6_planOn 122 = .ok (.invokevirtual 70, 3) := by decide +kernel
theorem dX6_planOn_125 : decode cX6_planOn 125 = .ok (.ifCond .ne 25, 3) := by decide +kernel
theorem dX6_planOn_128 : decode cX6_planOn 128 = .ok (.aload_n 1, 1) := by decide +kernel
theorem dX6_planOn_129 : decode cX6_planOn 129 = .ok (.iload_n 3, 1) := by decide +kernel
theorem dX6_planOn_130 : decode cX6_planOn 130 = .ok (.invokevirtual 83, 3) := by decide +kernel
theorem dX6_planOn_133 : decode cX6_planOn 133 = .ok (.ifCond .ne 17, 3) := by decide +kernel
theorem dX6_planOn_136 : decode cX6_planOn 136 = .ok (.aload_n 0, 1) := by decide +kernel
theorem dX6_planOn_137 : decode cX6_planOn 137 = .ok (.aload_n 1, 1) := by decide +kernel
theorem dX6_planOn_138 : decode cX6_planOn 138 = .ok (.getfield 41, 3) := by decide +kernel
theorem dX6_planOn_141 : decode cX6_planOn 141 = .ok (.getfield 45, 3) := by decide +kernel
theorem dX6_planOn_144 : decode cX6_planOn 144 = .ok (.iload_n 3, 1) := by decide +kernel
theorem dX6_planOn_145 : decode cX6_planOn 145 = .ok (.iaload, 1) := by decide +kernel
theorem dX6_planOn_146 : decode cX6_planOn 146 = .ok (.iload_n 3, 1) := by decide +kernel
theorem dX6_planOn_147 : decode cX6_planOn 147 = .ok (.invokevirtual 50, 3) := by decide +kernel
theorem dX6_planOn_150 : decode cX6_planOn 150 = .ok (.iinc 3 1, 3) := by decide +kernel
theorem dX6_planOn_153 : decode cX6_planOn 153 = .ok (.goto (-47), 3) := by decide +kernel
theorem dX6_planOn_156 : decode cX6_planOn 156 = .ok (.iload_n 2, 1) := by decide +kernel
theorem dX6_planOn_157 : decode cX6_planOn 157 = .ok (.aload_n 0, 1) := by decide +kernel
theorem dX6_planOn_158 : decode cX6_planOn 158 = .ok (.aload_n 1, 1) := by decide +kernel
theorem dX6_planOn_159 : decode cX6_planOn 159 = .ok (.invokevirtual 62, 3) := by decide +kernel
theorem dX6_planOn_162 : decode cX6_planOn 162 = .ok (.iadd, 1) := by decide +kernel
theorem dX6_planOn_163 : decode cX6_planOn 163 = .ok (.istore_n 2, 1) := by decide +kernel
theorem dX6_planOn_164 : decode cX6_planOn 164 = .ok (.aload_n 1, 1) := by decide +kernel
theorem dX6_planOn_165 : decode cX6_planOn 165 = .ok (.invokevirtual 86, 3) := by decide +kernel
theorem dX6_planOn_168 : decode cX6_planOn 168 = .ok (.iload_n 2, 1) := by decide +kernel
theorem dX6_planOn_169 : decode cX6_planOn 169 = .ok (.ireturn, 1) := by decide +kernel
theorem dX6_enqueue_0 : decode cX6_enqueue 0 = .ok (.aload_n 0, 1) := by decide +kernel
theorem dX6_enqueue_1 : decode cX6_enqueue 1 = .ok (.getfield 27, 3) := by decide +kernel
theorem dX6_enqueue_4 : decode cX6_enqueue 4 = .ok (.ifCond .lt 12, 3) := by decide +kernel
theorem dX6_enqueue_7 : decode cX6_enqueue 7 = .ok (.aload_n 0, 1) := by decide +kernel
theorem dX6_enqueue_8 : decode cX6_enqueue 8 = .ok (.getfield 27, 3) := by decide +kernel
theorem dX6_enqueue_11 : decode cX6_enqueue 11 = .ok (.bipush 20, 2) := by decide +kernel
theorem dX6_enqueue_13 : decode cX6_enqueue 13 = .ok (.if_icmp .lt 4, 3) := by decide +kernel
theorem dX6_enqueue_16 : decode cX6_enqueue 16 = .ok (.return_, 1) := by decide +kernel
theorem dX6_enqueue_17 : decode cX6_enqueue 17 = .ok (.iload_n 1, 1) := by decide +kernel
theorem dX6_enqueue_18 : decode cX6_enqueue 18 = .ok (.iconst 5, 1) := by decide +kernel
theorem dX6_enqueue_19 : decode cX6_enqueue 19 = .ok (.ishl, 1) := by decide +kernel
theorem dX6_enqueue_20 : decode cX6_enqueue 20 = .ok (.iload_n 2, 1) := by decide +kernel
theorem dX6_enqueue_21 : decode cX6_enqueue 21 = .ok (.iadd, 1) := by decide +kernel
theorem dX6_enqueue_22 : decode cX6_enqueue 22 = .ok (.istore_n 3, 1) := by decide +kernel
theorem dX6_enqueue_23 : decode cX6_enqueue 23 = .ok (.aload_n 0, 1) := by decide +kernel
theorem dX6_enqueue_24 : decode cX6_enqueue 24 = .ok (.getfield 27, 3) := by decide +kernel
theorem dX6_enqueue_27 : decode cX6_enqueue 27 = .ok (.istore 4, 2) := by decide +kernel
theorem dX6_enqueue_29 : decode cX6_enqueue 29 = .ok (.iload 4, 2) := by decide +kernel
theorem dX6_enqueue_31 : decode cX6_enqueue 31 = .ok (.ifCond .le 38, 3) := by decide +kernel
theorem dX6_enqueue_34 : decode cX6_enqueue 34 = .ok (.aload_n 0, 1) := by decide +kernel
theorem dX6_enqueue_35 : decode cX6_enqueue 35 = .ok (.getfield 9, 3) := by decide +kernel
theorem dX6_enqueue_38 : decode cX6_enqueue 38 = .ok (.iload 4, 2) := by decide +kernel
theorem dX6_enqueue_40 : decode cX6_enqueue 40 = .ok (.iconst 1, 1) := by decide +kernel
theorem dX6_enqueue_41 : decode cX6_enqueue 41 = .ok (.isub, 1) := by decide +kernel
theorem dX6_enqueue_42 : decode cX6_enqueue 42 = .ok (.iaload, 1) := by decide +kernel
theorem dX6_enqueue_43 : decode cX6_enqueue 43 = .ok (.iload_n 3, 1) := by decide +kernel
theorem dX6_enqueue_44 : decode cX6_enqueue 44 = .ok (.if_icmp .le 25, 3) := by decide +kernel
theorem dX6_enqueue_47 : decode cX6_enqueue 47 = .ok (.aload_n 0, 1) := by decide +kernel
theorem dX6_enqueue_48 : decode cX6_enqueue 48 = .ok (.getfield 9, 3) := by decide +kernel
theorem dX6_enqueue_51 : decode cX6_enqueue 51 = .ok (.iload 4, 2) := by decide +kernel
theorem dX6_enqueue_53 : decode cX6_enqueue 53 = .ok (.aload_n 0, 1) := by decide +kernel
theorem dX6_enqueue_54 : decode cX6_enqueue 54 = .ok (.getfield 9, 3) := by decide +kernel
theorem dX6_enqueue_57 : decode cX6_enqueue 57 = .ok (.iload 4, 2) := by decide +kernel
theorem dX6_enqueue_59 : decode cX6_enqueue 59 = .ok (.iconst 1, 1) := by decide +kernel
theorem dX6_enqueue_60 : decode cX6_enqueue 60 = .ok (.isub, 1) := by decide +kernel
theorem dX6_enqueue_61 : decode cX6_enqueue 61 = .ok (.iaload, 1) := by decide +kernel
theorem dX6_enqueue_62 : decode cX6_enqueue 62 = .ok (.iastore, 1) := by decide +kernel
theorem dX6_enqueue_63 : decode cX6_enqueue 63 = .ok (.iinc 4 (-1), 3) := by decide +kernel
theorem dX6_enqueue_66 : decode cX6_enqueue 66 = .ok (.goto (-37), 3) := by decide +kernel
theorem dX6_enqueue_69 : decode cX6_enqueue 69 = .ok (.aload_n 0, 1) := by decide +kernel
theorem dX6_enqueue_70 : decode cX6_enqueue 70 = .ok (.getfield 9, 3) := by decide +kernel
theorem dX6_enqueue_73 : decode cX6_enqueue 73 = .ok (.iload 4, 2) := by decide +kernel
theorem dX6_enqueue_75 : decode cX6_enqueue 75 = .ok (.iload_n 3, 1) := by decide +kernel
theorem dX6_enqueue_76 : decode cX6_enqueue 76 = .ok (.iastore, 1) := by decide +kernel
theorem dX6_enqueue_77 : decode cX6_enqueue 77 = .ok (.aload_n 0, 1) := by decide +kernel
theorem dX6_enqueue_78 : decode cX6_enqueue 78 = .ok (.dup, 1) := by decide +kernel
theorem dX6_enqueue_79 : decode cX6_enqueue 79 = .ok (.getfield 27, 3) := by decide +kernel
theorem dX6_enqueue_82 : decode cX6_enqueue 82 = .ok (.iconst 1, 1) := by decide +kernel
theorem dX6_enqueue_83 : decode cX6_enqueue 83 = .ok (.iadd, 1) := by decide +kernel
theorem dX6_enqueue_84 : decode cX6_enqueue 84 = .ok (.putfield 27, 3) := by decide +kernel
theorem dX6_enqueue_87 : decode cX6_enqueue 87 = .ok (.return_, 1) := by decide +kernel
theorem dX6_seatAirborne_0 : decode cX6_seatAirborne 0 = .ok (.iconst 0, 1) := by decide +kernel
theorem dX6_seatAirborne_1 : decode cX6_seatAirborne 1 = .ok (.istore_n 3, 1) := by decide +kernel
theorem dX6_seatAirborne_2 : decode cX6_seatAirborne 2 = .ok (.iconst 0, 1) := by decide +kernel
theorem dX6_seatAirborne_3 : decode cX6_seatAirborne 3 = .ok (.istore 4, 2) := by decide +kernel
theorem dX6_seatAirborne_5 : decode cX6_seatAirborne 5 = .ok (.iload 4, 2) := by decide +kernel
theorem dX6_seatAirborne_7 : decode cX6_seatAirborne 7 = .ok (.aload_n 0, 1) := by decide +kernel
theorem dX6_seatAirborne_8 : decode cX6_seatAirborne 8 = .ok (.getfield 27, 3) := by decide +kernel
theorem dX6_seatAirborne_11 : decode cX6_seatAirborne 11 = .ok (.if_icmp .ge 109, 3) := by decide +kernel
theorem dX6_seatAirborne_14 : decode cX6_seatAirborne 14 = .ok (.iload 4, 2) := by decide +kernel
theorem dX6_seatAirborne_16 : decode cX6_seatAirborne 16 = .ok (.bipush 20, 2) := by decide +kernel
theorem dX6_seatAirborne_18 : decode cX6_seatAirborne 18 = .ok (.if_icmp .ge 102, 3) := by decide +kernel
theorem dX6_seatAirborne_21 : decode cX6_seatAirborne 21 = .ok (.aload_n 0, 1) := by decide +kernel
theorem dX6_seatAirborne_22 : decode cX6_seatAirborne 22 = .ok (.getfield 9, 3) := by decide +kernel
theorem dX6_seatAirborne_25 : decode cX6_seatAirborne 25 = .ok (.iload 4, 2) := by decide +kernel
theorem dX6_seatAirborne_27 : decode cX6_seatAirborne 27 = .ok (.iaload, 1) := by decide +kernel
theorem dX6_seatAirborne_28 : decode cX6_seatAirborne 28 = .ok (.bipush 31, 2) := by decide +kernel
theorem dX6_seatAirborne_30 : decode cX6_seatAirborne 30 = .ok (.iand, 1) := by decide +kernel
theorem dX6_seatAirborne_31 : decode cX6_seatAirborne 31 = .ok (.istore 5, 2) := by decide +kernel
theorem dX6_seatAirborne_33 : decode cX6_seatAirborne 33 = .ok (.aload_n 1, 1) := by decide +kernel
theorem dX6_seatAirborne_34 : decode cX6_seatAirborne 34 = .ok (.iload 5, 2) := by decide +kernel
theorem dX6_seatAirborne_36 : decode cX6_seatAirborne 36 = .ok (.invokevirtual 30, 3) := by decide +kernel
theorem dX6_seatAirborne_39 : decode cX6_seatAirborne 39 = .ok (.ifCond .ne 6, 3) := by decide +kernel
theorem dX6_seatAirborne_42 : decode cX6_seatAirborne 42 = .ok (.goto 72, 3) := by decide +kernel
theorem dX6_seatAirborne_45 : decode cX6_seatAirborne 45 = .ok (.aload_n 1, 1) := by decide +kernel
theorem dX6_seatAirborne_46 : decode cX6_seatAirborne 46 = .ok (.getfield 73, 3) := by decide +kernel
theorem dX6_seatAirborne_49 : decode cX6_seatAirborne 49 = .ok (.iload 5, 2) := by decide +kernel
theorem dX6_seatAirborne_51 : decode cX6_seatAirborne 51 = .ok (.iaload, 1) := by decide +kernel
theorem dX6_seatAirborne_52 : decode cX6_seatAirborne 52 = .ok (.istore 6, 2) := by decide +kernel
theorem dX6_seatAirborne_54 : decode cX6_seatAirborne 54 = .ok (.aload_n 1, 1) := by decide +kernel
theorem dX6_seatAirborne_55 : decode cX6_seatAirborne 55 = .ok (.getfield 41, 3) := by decide +kernel
theorem dX6_seatAirborne_58 : decode cX6_seatAirborne 58 = .ok (.getfield 45, 3) := by decide +kernel
theorem dX6_seatAirborne_61 : decode cX6_seatAirborne 61 = .ok (.iload 5, 2) := by decide +kernel
theorem dX6_seatAirborne_63 : decode cX6_seatAirborne 63 = .ok (.iaload, 1) := by decide +kernel
theorem dX6_seatAirborne_64 : decode cX6_seatAirborne 64 = .ok (.aload_n 1, 1) := by decide +kernel
theorem dX6_seatAirborne_65 : decode cX6_seatAirborne 65 = .ok (.getfield 80, 3) := by decide +kernel
theorem dX6_seatAirborne_68 : decode cX6_seatAirborne 68 = .ok (.iload 5, 2) := by decide +kernel
theorem dX6_seatAirborne_70 : decode cX6_seatAirborne 70 = .ok (.iaload, 1) := by decide +kernel
theorem dX6_seatAirborne_71 : decode cX6_seatAirborne 71 = .ok (.iadd, 1) := by decide +kernel
theorem dX6_seatAirborne_72 : decode cX6_seatAirborne 72 = .ok (.istore 7, 2) := by decide +kernel
theorem dX6_seatAirborne_74 : decode cX6_seatAirborne 74 = .ok (.aload_n 1, 1) := by decide +kernel
theorem dX6_seatAirborne_75 : decode cX6_seatAirborne 75 = .ok (.iload 5, 2) := by decide +kernel
theorem dX6_seatAirborne_77 : decode cX6_seatAirborne 77 = .ok (.aload_n 0, 1) := by decide +kernel
theorem dX6_seatAirborne_78 : decode cX6_seatAirborne 78 = .ok (.aload_n 1, 1) := by decide +kernel
theorem dX6_seatAirborne_79 : decode cX6_seatAirborne 79 = .ok (.getfield 89, 3) := by decide +kernel
theorem dX6_seatAirborne_82 : decode cX6_seatAirborne 82 = .ok (.iload 7, 2) := by decide +kernel
theorem dX6_seatAirborne_84 : decode cX6_seatAirborne 84 = .ok (.iload_n 2, 1) := by decide +kernel
theorem dX6_seatAirborne_85 : decode cX6_seatAirborne 85 = .ok (.invokestatic 93, 3) := by decide +kernel
theorem dX6_seatAirborne_88 : decode cX6_seatAirborne 88 = .ok (.invokevirtual 99, 3) := by decide +kernel
theorem dX6_seatAirborne_91 : decode cX6_seatAirborne 91 = .ok (.invokevirtual 103, 3) := by decide +kernel
theorem dX6_seatAirborne_94 : decode cX6_seatAirborne 94 = .ok (.iload_n 3, 1) := by decide +kernel
theorem dX6_seatAirborne_95 : decode cX6_seatAirborne 95 = .ok (.aload_n 1, 1) := by decide +kernel
theorem dX6_seatAirborne_96 : decode cX6_seatAirborne 96 = .ok (.getfield 73, 3) := by decide +kernel
theorem dX6_seatAirborne_99 : decode cX6_seatAirborne 99 = .ok (.iload 5, 2) := by decide +kernel
theorem dX6_seatAirborne_101 : decode cX6_seatAirborne 101 = .ok (.iaload, 1) := by decide +kernel
theorem dX6_seatAirborne_102 : decode cX6_seatAirborne 102 = .ok (.iload 6, 2) := by decide +kernel
theorem dX6_seatAirborne_104 : decode cX6_seatAirborne 104 = .ok (.if_icmp .eq 7, 3) := by decide +kernel
theorem dX6_seatAirborne_107 : decode cX6_seatAirborne 107 = .ok (.iconst 1, 1) := by decide +kernel
theorem dX6_seatAirborne_108 : decode cX6_seatAirborne 108 = .ok (.goto 4, 3) := by decide +kernel
theorem dX6_seatAirborne_111 : decode cX6_seatAirborne 111 = .ok (.iconst 0, 1) := by decide +kernel
theorem dX6_seatAirborne_112 : decode cX6_seatAirborne 112 = .ok (.iadd, 1) := by decide +kernel
theorem dX6_seatAirborne_113 : decode cX6_seatAirborne 113 = .ok (.istore_n 3, 1) := by decide +kernel
theorem dX6_seatAirborne_114 : decode cX6_seatAirborne 114 = .ok (.iinc 4 1, 3) := by decide +kernel
theorem dX6_seatAirborne_117 : decode cX6_seatAirborne 117 = .ok (.goto (-112), 3) := by decide +kernel
theorem dX6_seatAirborne_120 : decode cX6_seatAirborne 120 = .ok (.iload_n 3, 1) := by decide +kernel
theorem dX6_seatAirborne_121 : decode cX6_seatAirborne 121 = .ok (.ireturn, 1) := by decide +kernel
theorem dX6_seatGrounded_0 : decode cX6_seatGrounded 0 = .ok (.iconst 0, 1) := by decide +kernel
theorem dX6_seatGrounded_1 : decode cX6_seatGrounded 1 = .ok (.istore_n 2, 1) := by decide +kernel
theorem dX6_seatGrounded_2 : decode cX6_seatGrounded 2 = .ok (.iconst 0, 1) := by decide +kernel
theorem dX6_seatGrounded_3 : decode cX6_seatGrounded 3 = .ok (.istore_n 3, 1) := by decide +kernel
theorem dX6_seatGrounded_4 : decode cX6_seatGrounded 4 = .ok (.iload_n 3, 1) := by decide +kernel
theorem dX6_seatGrounded_5 : decode cX6_seatGrounded 5 = .ok (.aload_n 0, 1) := by decide +kernel
theorem dX6_seatGrounded_6 : decode cX6_seatGrounded 6 = .ok (.getfield 27, 3) := by decide +kernel
theorem dX6_seatGrounded_9 : decode cX6_seatGrounded 9 = .ok (.if_icmp .ge 87, 3) := by decide +kernel
theorem dX6_seatGrounded_12 : decode cX6_seatGrounded 12 = .ok (.iload_n 3, 1) := by decide +kernel
theorem dX6_seatGrounded_13 : decode cX6_seatGrounded 13 = .ok (.bipush 20, 2) := by decide +kernel
theorem dX6_seatGrounded_15 : decode cX6_seatGrounded 15 = .ok (.if_icmp .ge 81, 3) := by decide +kernel
theorem dX6_seatGrounded_18 : decode cX6_seatGrounded 18 = .ok (.aload_n 0, 1) := by decide +kernel
theorem dX6_seatGrounded_19 : decode cX6_seatGrounded 19 = .ok (.getfield 9, 3) := by decide +kernel
theorem dX6_seatGrounded_22 : decode cX6_seatGrounded 22 = .ok (.iload_n 3, 1) := by decide +kernel
theorem dX6_seatGrounded_23 : decode cX6_seatGrounded 23 = .ok (.iaload, 1) := by decide +kernel
theorem dX6_seatGrounded_24 : decode cX6_seatGrounded 24 = .ok (.bipush 31, 2) := by decide +kernel
theorem dX6_seatGrounded_26 : decode cX6_seatGrounded 26 = .ok (.iand, 1) := by decide +kernel
theorem dX6_seatGrounded_27 : decode cX6_seatGrounded 27 = .ok (.istore 4, 2) := by decide +kernel
theorem dX6_seatGrounded_29 : decode cX6_seatGrounded 29 = .ok (.aload_n 1, 1) := by decide +kernel
theorem dX6_seatGrounded_30 : decode cX6_seatGrounded 30 = .ok (.iload 4, 2) := by decide +kernel
theorem dX6_seatGrounded_32 : decode cX6_seatGrounded 32 = .ok (.invokevirtual 30, 3) := by decide +kernel
theorem dX6_seatGrounded_35 : decode cX6_seatGrounded 35 = .ok (.ifCond .ne 6, 3) := by decide +kernel
theorem dX6_seatGrounded_38 : decode cX6_seatGrounded 38 = .ok (.goto 52, 3) := by decide +kernel
theorem dX6_seatGrounded_41 : decode cX6_seatGrounded 41 = .ok (.aload_n 1, 1) := by decide +kernel
theorem dX6_seatGrounded_42 : decode cX6_seatGrounded 42 = .ok (.getfield 73, 3) := by decide +kernel
theorem dX6_seatGrounded_45 : decode cX6_seatGrounded 45 = .ok (.iload 4, 2) := by decide +kernel
theorem dX6_seatGrounded_47 : decode cX6_seatGrounded 47 = .ok (.iaload, 1) := by decide +kernel
theorem dX6_seatGrounded_48 : decode cX6_seatGrounded 48 = .ok (.istore 5, 2) := by decide +kernel
theorem dX6_seatGrounded_50 : decode cX6_seatGrounded 50 = .ok (.aload_n 1, 1) := by decide +kernel
theorem dX6_seatGrounded_51 : decode cX6_seatGrounded 51 = .ok (.iload 4, 2) := by decide +kernel
theorem dX6_seatGrounded_53 : decode cX6_seatGrounded 53 = .ok (.aload_n 0, 1) := by decide +kernel
theorem dX6_seatGrounded_54 : decode cX6_seatGrounded 54 = .ok (.aload_n 1, 1) := by decide +kernel
theorem dX6_seatGrounded_55 : decode cX6_seatGrounded 55 = .ok (.getfield 89, 3) := by decide +kernel
theorem dX6_seatGrounded_58 : decode cX6_seatGrounded 58 = .ok (.aload_n 1, 1) := by decide +kernel
theorem dX6_seatGrounded_59 : decode cX6_seatGrounded 59 = .ok (.iload 4, 2) := by decide +kernel
theorem dX6_seatGrounded_61 : decode cX6_seatGrounded 61 = .ok (.invokevirtual 106, 3) := by decide +kernel
theorem dX6_seatGrounded_64 : decode cX6_seatGrounded 64 = .ok (.invokevirtual 99, 3) := by decide +kernel
theorem dX6_seatGrounded_67 : decode cX6_seatGrounded 67 = .ok (.invokevirtual 109, 3) := by decide +kernel
theorem dX6_seatGrounded_70 : decode cX6_seatGrounded 70 = .ok (.iload_n 2, 1) := by decide +kernel
theorem dX6_seatGrounded_71 : decode cX6_seatGrounded 71 = .ok (.aload_n 1, 1) := by decide +kernel
theorem dX6_seatGrounded_72 : decode cX6_seatGrounded 72 = .ok (.getfield 73, 3) := by decide +kernel
theorem dX6_seatGrounded_75 : decode cX6_seatGrounded 75 = .ok (.iload 4, 2) := by decide +kernel
theorem dX6_seatGrounded_77 : decode cX6_seatGrounded 77 = .ok (.iaload, 1) := by decide +kernel
theorem dX6_seatGrounded_78 : decode cX6_seatGrounded 78 = .ok (.iload 5, 2) := by decide +kernel
theorem dX6_seatGrounded_80 : decode cX6_seatGrounded 80 = .ok (.if_icmp .eq 7, 3) := by decide +kernel
theorem dX6_seatGrounded_83 : decode cX6_seatGrounded 83 = .ok (.iconst 1, 1) := by decide +kernel
theorem dX6_seatGrounded_84 : decode cX6_seatGrounded 84 = .ok (.goto 4, 3) := by decide +kernel
theorem dX6_seatGrounded_87 : decode cX6_seatGrounded 87 = .ok (.iconst 0, 1) := by decide +kernel
theorem dX6_seatGrounded_88 : decode cX6_seatGrounded 88 = .ok (.iadd, 1) := by decide +kernel
theorem dX6_seatGrounded_89 : decode cX6_seatGrounded 89 = .ok (.istore_n 2, 1) := by decide +kernel
theorem dX6_seatGrounded_90 : decode cX6_seatGrounded 90 = .ok (.iinc 3 1, 3) := by decide +kernel
theorem dX6_seatGrounded_93 : decode cX6_seatGrounded 93 = .ok (.goto (-89), 3) := by decide +kernel
theorem dX6_seatGrounded_96 : decode cX6_seatGrounded 96 = .ok (.iload_n 2, 1) := by decide +kernel
theorem dX6_seatGrounded_97 : decode cX6_seatGrounded 97 = .ok (.ireturn, 1) := by decide +kernel
theorem dX6_keyOf_0 : decode cX6_keyOf 0 = .ok (.aload_n 1, 1) := by decide +kernel
theorem dX6_keyOf_1 : decode cX6_keyOf 1 = .ok (.getfield 41, 3) := by decide +kernel
theorem dX6_keyOf_4 : decode cX6_keyOf 4 = .ok (.getfield 45, 3) := by decide +kernel
theorem dX6_keyOf_7 : decode cX6_keyOf 7 = .ok (.iload_n 2, 1) := by decide +kernel
theorem dX6_keyOf_8 : decode cX6_keyOf 8 = .ok (.iaload, 1) := by decide +kernel
theorem dX6_keyOf_9 : decode cX6_keyOf 9 = .ok (.istore 4, 2) := by decide +kernel
theorem dX6_keyOf_11 : decode cX6_keyOf 11 = .ok (.iload_n 3, 1) := by decide +kernel
theorem dX6_keyOf_12 : decode cX6_keyOf 12 = .ok (.iconst 1, 1) := by decide +kernel
theorem dX6_keyOf_13 : decode cX6_keyOf 13 = .ok (.if_icmp .ne 23, 3) := by decide +kernel
theorem dX6_keyOf_16 : decode cX6_keyOf 16 = .ok (.bipush 9, 2) := by decide +kernel
theorem dX6_keyOf_18 : decode cX6_keyOf 18 = .ok (.aload_n 1, 1) := by decide +kernel
theorem dX6_keyOf_19 : decode cX6_keyOf 19 = .ok (.getfield 41, 3) := by decide +kernel
theorem dX6_keyOf_22 : decode cX6_keyOf 22 = .ok (.getfield 112, 3) := by decide +kernel
theorem dX6_keyOf_25 : decode cX6_keyOf 25 = .ok (.iload_n 2, 1) := by decide +kernel
theorem dX6_keyOf_26 : decode cX6_keyOf 26 = .ok (.iaload, 1) := by decide +kernel
theorem dX6_keyOf_27 : decode cX6_keyOf 27 = .ok (.isub, 1) := by decide +kernel
theorem dX6_keyOf_28 : decode cX6_keyOf 28 = .ok (.sipush 720, 3) := by decide +kernel
theorem dX6_keyOf_31 : decode cX6_keyOf 31 = .ok (.imul, 1) := by decide +kernel
theorem dX6_keyOf_32 : decode cX6_keyOf 32 = .ok (.iload 4, 2) := by decide +kernel
theorem dX6_keyOf_34 : decode cX6_keyOf 34 = .ok (.iadd, 1) := by decide +kernel
theorem dX6_keyOf_35 : decode cX6_keyOf 35 = .ok (.ireturn, 1) := by decide +kernel
theorem dX6_keyOf_36 : decode cX6_keyOf 36 = .ok (.iload_n 3, 1) := by decide +kernel
theorem dX6_keyOf_37 : decode cX6_keyOf 37 = .ok (.iconst 2, 1) := by decide +kernel
theorem dX6_keyOf_38 : decode cX6_keyOf 38 = .ok (.if_icmp .ne 22, 3) := by decide +kernel
theorem dX6_keyOf_41 : decode cX6_keyOf 41 = .ok (.aload_n 0, 1) := by decide +kernel
theorem dX6_keyOf_42 : decode cX6_keyOf 42 = .ok (.aload_n 1, 1) := by decide +kernel
theorem dX6_keyOf_43 : decode cX6_keyOf 43 = .ok (.iload_n 2, 1) := by decide +kernel
theorem dX6_keyOf_44 : decode cX6_keyOf 44 = .ok (.invokevirtual 115, 3) := by decide +kernel
theorem dX6_keyOf_47 : decode cX6_keyOf 47 = .ok (.iconst 5, 1) := by decide +kernel
theorem dX6_keyOf_48 : decode cX6_keyOf 48 = .ok (.imul, 1) := by decide +kernel
theorem dX6_keyOf_49 : decode cX6_keyOf 49 = .ok (.aload_n 1, 1) := by decide +kernel
theorem dX6_keyOf_50 : decode cX6_keyOf 50 = .ok (.getfield 41, 3) := by decide +kernel
theorem dX6_keyOf_53 : decode cX6_keyOf 53 = .ok (.getfield 118, 3) := by decide +kernel
theorem dX6_keyOf_56 : decode cX6_keyOf 56 = .ok (.iload_n 2, 1) := by decide +kernel
theorem dX6_keyOf_57 : decode cX6_keyOf 57 = .ok (.iaload, 1) := by decide +kernel
theorem dX6_keyOf_58 : decode cX6_keyOf 58 = .ok (.iadd, 1) := by decide +kernel
theorem dX6_keyOf_59 : decode cX6_keyOf 59 = .ok (.ireturn, 1) := by decide +kernel
theorem dX6_keyOf_60 : decode cX6_keyOf 60 = .ok (.iload 4, 2) := by decide +kernel
theorem dX6_keyOf_62 : decode cX6_keyOf 62 = .ok (.ireturn, 1) := by decide +kernel
theorem dX6_turnOf_0 : decode cX6_turnOf 0 = .ok (.aload_n 1, 1) := by decide +kernel
theorem dX6_turnOf_1 : decode cX6_turnOf 1 = .ok (.getfield 41, 3) := by decide +kernel
theorem dX6_turnOf_4 : decode cX6_turnOf 4 = .ok (.getfield 45, 3) := by decide +kernel
theorem dX6_turnOf_7 : decode cX6_turnOf 7 = .ok (.iload_n 2, 1) := by decide +kernel
theorem dX6_turnOf_8 : decode cX6_turnOf 8 = .ok (.iaload, 1) := by decide +kernel
theorem dX6_turnOf_9 : decode cX6_turnOf 9 = .ok (.istore_n 3, 1) := by decide +kernel
theorem dX6_turnOf_10 : decode cX6_turnOf 10 = .ok (.iconst 0, 1) := by decide +kernel
theorem dX6_turnOf_11 : decode cX6_turnOf 11 = .ok (.istore 4, 2) := by decide +kernel
theorem dX6_turnOf_13 : decode cX6_turnOf 13 = .ok (.iconst 0, 1) := by decide +kernel
theorem dX6_turnOf_14 : decode cX6_turnOf 14 = .ok (.istore 5, 2) := by decide +kernel
theorem dX6_turnOf_16 : decode cX6_turnOf 16 = .ok (.iload 5, 2) := by decide +kernel
theorem dX6_turnOf_18 : decode cX6_turnOf 18 = .ok (.bipush 20, 2) := by decide +kernel
theorem dX6_turnOf_20 : decode cX6_turnOf 20 = .ok (.if_icmp .ge 71, 3) := by decide +kernel
theorem dX6_turnOf_23 : decode cX6_turnOf 23 = .ok (.aload_n 1, 1) := by decide +kernel
theorem dX6_turnOf_24 : decode cX6_turnOf 24 = .ok (.getfield 41, 3) := by decide +kernel
theorem dX6_turnOf_27 : decode cX6_turnOf 27 = .ok (.iload_n 2, 1) := by decide +kernel
theorem dX6_turnOf_28 : decode cX6_turnOf 28 = .ok (.iload 5, 2) := by decide +kernel
theorem dX6_turnOf_30 : decode cX6_turnOf 30 = .ok (.invokevirtual 121, 3) := by decide +kernel
theorem dX6_turnOf_33 : decode cX6_turnOf 33 = .ok (.ifCond .eq 52, 3) := by decide +kernel
theorem dX6_turnOf_36 : decode cX6_turnOf 36 = .ok (.aload_n 1, 1) := by decide +kernel
theorem dX6_turnOf_37 : decode cX6_turnOf 37 = .ok (.iload 5, 2) := by decide +kernel
theorem dX6_turnOf_39 : decode cX6_turnOf 39 = .ok (.invokevirtual 34, 3) := by decide +kernel
theorem dX6_turnOf_42 : decode cX6_turnOf 42 = .ok (.aload_n 1, 1) := by decide +kernel
theorem dX6_turnOf_43 : decode cX6_turnOf 43 = .ok (.getfield 38, 3) := by decide +kernel
theorem dX6_turnOf_46 : decode cX6_turnOf 46 = .ok (.if_icmp .gt 6, 3) := by decide +kernel
theorem dX6_turnOf_49 : decode cX6_turnOf 49 = .ok (.goto 36, 3) := by decide +kernel
theorem dX6_turnOf_52 : decode cX6_turnOf 52 = .ok (.aload_n 1, 1) := by decide +kernel
theorem dX6_turnOf_53 : decode cX6_turnOf 53 = .ok (.getfield 41, 3) := by decide +kernel
theorem dX6_turnOf_56 : decode cX6_turnOf 56 = .ok (.getfield 45, 3) := by decide +kernel
theorem dX6_turnOf_59 : decode cX6_turnOf 59 = .ok (.iload 5, 2) := by decide +kernel
theorem dX6_turnOf_61 : decode cX6_turnOf 61 = .ok (.iaload, 1) := by decide +kernel
theorem dX6_turnOf_62 : decode cX6_turnOf 62 = .ok (.istore 6, 2) := by decide +kernel
theorem dX6_turnOf_64 : decode cX6_turnOf 64 = .ok (.iload 6, 2) := by decide +kernel
theorem dX6_turnOf_66 : decode cX6_turnOf 66 = .ok (.iload_n 3, 1) := by decide +kernel
theorem dX6_turnOf_67 : decode cX6_turnOf 67 = .ok (.if_icmp .lt 15, 3) := by decide +kernel
theorem dX6_turnOf_70 : decode cX6_turnOf 70 = .ok (.iload 6, 2) := by decide +kernel
theorem dX6_turnOf_72 : decode cX6_turnOf 72 = .ok (.iload_n 3, 1) := by decide +kernel
theorem dX6_turnOf_73 : decode cX6_turnOf 73 = .ok (.if_icmp .ne 12, 3) := by decide +kernel
theorem dX6_turnOf_76 : decode cX6_turnOf 76 = .ok (.iload 5, 2) := by decide +kernel
theorem dX6_turnOf_78 : decode cX6_turnOf 78 = .ok (.iload_n 2, 1) := by decide +kernel
theorem dX6_turnOf_79 : decode cX6_turnOf 79 = .ok (.if_icmp .ge 6, 3) := by decide +kernel
theorem dX6_turnOf_82 : decode cX6_turnOf 82 = .ok (.iinc 4 1, 3) := by decide +kernel
theorem dX6_turnOf_85 : decode cX6_turnOf 85 = .ok (.iinc 5 1, 3) := by decide +kernel
theorem dX6_turnOf_88 : decode cX6_turnOf 88 = .ok (.goto (-72), 3) := by decide +kernel
theorem dX6_turnOf_91 : decode cX6_turnOf 91 = .ok (.iload 4, 2) := by decide +kernel
theorem dX6_turnOf_93 : decode cX6_turnOf 93 = .ok (.ireturn, 1) := by decide +kernel
theorem dX6_takeFirst_0 : decode cX6_takeFirst 0 = .ok (.aload_n 0, 1) := by decide +kernel
theorem dX6_takeFirst_1 : decode cX6_takeFirst 1 = .ok (.aload_n 1, 1) := by decide +kernel
theorem dX6_takeFirst_2 : decode cX6_takeFirst 2 = .ok (.iload_n 2, 1) := by decide +kernel
theorem dX6_takeFirst_3 : decode cX6_takeFirst 3 = .ok (.invokevirtual 125, 3) := by decide +kernel
theorem dX6_takeFirst_6 : decode cX6_takeFirst 6 = .ok (.istore_n 3, 1) := by decide +kernel
theorem dX6_takeFirst_7 : decode cX6_takeFirst 7 = .ok (.aload_n 0, 1) := by decide +kernel
theorem dX6_takeFirst_8 : decode cX6_takeFirst 8 = .ok (.iload_n 3, 1) := by decide +kernel
theorem dX6_takeFirst_9 : decode cX6_takeFirst 9 = .ok (.invokevirtual 76, 3) := by decide +kernel
theorem dX6_takeFirst_12 : decode cX6_takeFirst 12 = .ok (.iload_n 3, 1) := by decide +kernel
theorem dX6_takeFirst_13 : decode cX6_takeFirst 13 = .ok (.ireturn, 1) := by decide +kernel
theorem dX6_firstFree_0 : decode cX6_firstFree 0 = .ok (.iconst 0, 1) := by decide +kernel
theorem dX6_firstFree_1 : decode cX6_firstFree 1 = .ok (.iload_n 2, 1) := by decide +kernel
theorem dX6_firstFree_2 : decode cX6_firstFree 2 = .ok (.bipush 60, 2) := by decide +kernel
theorem dX6_firstFree_4 : decode cX6_firstFree 4 = .ok (.idiv, 1) := by decide +kernel
theorem dX6_firstFree_5 : decode cX6_firstFree 5 = .ok (.invokestatic 93, 3) := by decide +kernel
theorem dX6_firstFree_8 : decode cX6_firstFree 8 = .ok (.istore_n 3, 1) := by decide +kernel
theorem dX6_firstFree_9 : decode cX6_firstFree 9 = .ok (.iload_n 3, 1) := by decide +kernel
theorem dX6_firstFree_10 : decode cX6_firstFree 10 = .ok (.bipush 12, 2) := by decide +kernel
theorem dX6_firstFree_12 : decode cX6_firstFree 12 = .ok (.if_icmp .ge 60, 3) := by decide +kernel
theorem dX6_firstFree_15 : decode cX6_firstFree 15 = .ok (.aload_n 1, 1) := by decide +kernel
theorem dX6_firstFree_16 : decode cX6_firstFree 16 = .ok (.iload_n 3, 1) := by decide +kernel
theorem dX6_firstFree_17 : decode cX6_firstFree 17 = .ok (.invokevirtual 128, 3) := by decide +kernel
theorem dX6_firstFree_20 : decode cX6_firstFree 20 = .ok (.istore 4, 2) := by decide +kernel
theorem dX6_firstFree_22 : decode cX6_firstFree 22 = .ok (.iconst 0, 1) := by decide +kernel
theorem dX6_firstFree_23 : decode cX6_firstFree 23 = .ok (.istore 5, 2) := by decide +kernel
theorem dX6_firstFree_25 : decode cX6_firstFree 25 = .ok (.iload 5, 2) := by decide +kernel
theorem dX6_firstFree_27 : decode cX6_firstFree 27 = .ok (.iload 4, 2) := by decide +kernel
theorem dX6_firstFree_29 : decode cX6_firstFree 29 = .ok (.if_icmp .ge 37, 3) := by decide +kernel
theorem dX6_firstFree_32 : decode cX6_firstFree 32 = .ok (.iload_n 3, 1) := by decide +kernel
theorem dX6_firstFree_33 : decode cX6_firstFree 33 = .ok (.iload 5, 2) := by decide +kernel
theorem dX6_firstFree_35 : decode cX6_firstFree 35 = .ok (.iload 4, 2) := by decide +kernel
theorem dX6_firstFree_37 : decode cX6_firstFree 37 = .ok (.invokestatic 133, 3) := by decide +kernel
theorem dX6_firstFree_40 : decode cX6_firstFree 40 = .ok (.istore 6, 2) := by decide +kernel
theorem dX6_firstFree_42 : decode cX6_firstFree 42 = .ok (.iload 6, 2) := by decide +kernel
theorem dX6_firstFree_44 : decode cX6_firstFree 44 = .ok (.iload_n 2, 1) := by decide +kernel
theorem dX6_firstFree_45 : decode cX6_firstFree 45 = .ok (.if_icmp .lt 15, 3) := by decide +kernel
theorem dX6_firstFree_48 : decode cX6_firstFree 48 = .ok (.aload_n 0, 1) := by decide +kernel
theorem dX6_firstFree_49 : decode cX6_firstFree 49 = .ok (.iload 6, 2) := by decide +kernel
theorem dX6_firstFree_51 : decode cX6_firstFree 51 = .ok (.invokevirtual 137, 3) := by decide +kernel
theorem dX6_firstFree_54 : decode cX6_firstFree 54 = .ok (.ifCond .eq 6, 3) := by decide +kernel
theorem dX6_firstFree_57 : decode cX6_firstFree 57 = .ok (.iload 6, 2) := by decide +kernel
theorem dX6_firstFree_59 : decode cX6_firstFree 59 = .ok (.ireturn, 1) := by decide +kernel
theorem dX6_firstFree_60 : decode cX6_firstFree 60 = .ok (.iinc 5 1, 3) := by decide +kernel
theorem dX6_firstFree_63 : decode cX6_firstFree 63 = .ok (.goto (-38), 3) := by decide +kernel
theorem dX6_firstFree_66 : decode cX6_firstFree 66 = .ok (.iinc 3 1, 3) := by decide +kernel
theorem dX6_firstFree_69 : decode cX6_firstFree 69 = .ok (.goto (-60), 3) := by decide +kernel
theorem dX6_firstFree_72 : decode cX6_firstFree 72 = .ok (.sipush 720, 3) := by decide +kernel
theorem dX6_firstFree_75 : decode cX6_firstFree 75 = .ok (.istore_n 3, 1) := by decide +kernel
theorem dX6_firstFree_76 : decode cX6_firstFree 76 = .ok (.iload_n 3, 1) := by decide +kernel
theorem dX6_firstFree_77 : decode cX6_firstFree 77 = .ok (.sipush 1200, 3) := by decide +kernel
theorem dX6_firstFree_80 : decode cX6_firstFree 80 = .ok (.if_icmp .ge 24, 3) := by decide +kernel
theorem dX6_firstFree_83 : decode cX6_firstFree 83 = .ok (.iload_n 3, 1) := by decide +kernel
theorem dX6_firstFree_84 : decode cX6_firstFree 84 = .ok (.iload_n 2, 1) := by decide +kernel
theorem dX6_firstFree_85 : decode cX6_firstFree 85 = .ok (.if_icmp .lt 13, 3) := by decide +kernel
theorem dX6_firstFree_88 : decode cX6_firstFree 88 = .ok (.aload_n 0, 1) := by decide +kernel
theorem dX6_firstFree_89 : decode cX6_firstFree 89 = .ok (.iload_n 3, 1) := by decide +kernel
theorem dX6_firstFree_90 : decode cX6_firstFree 90 = .ok (.invokevirtual 137, 3) := by decide +kernel
theorem dX6_firstFree_93 : decode cX6_firstFree 93 = .ok (.ifCond .eq 5, 3) := by decide +kernel
theorem dX6_firstFree_96 : decode cX6_firstFree 96 = .ok (.iload_n 3, 1) := by decide +kernel
theorem dX6_firstFree_97 : decode cX6_firstFree 97 = .ok (.ireturn, 1) := by decide +kernel
theorem dX6_firstFree_98 : decode cX6_firstFree 98 = .ok (.iinc 3 5, 3) := by decide +kernel
theorem dX6_firstFree_101 : decode cX6_firstFree 101 = .ok (.goto (-25), 3) := by decide +kernel
theorem dX6_firstFree_104 : decode cX6_firstFree 104 = .ok (.iconst (-1), 1) := by decide +kernel
theorem dX6_firstFree_105 : decode cX6_firstFree 105 = .ok (.ireturn, 1) := by decide +kernel
theorem dX6_isFree_0 : decode cX6_isFree 0 = .ok (.iload_n 1, 1) := by decide +kernel
theorem dX6_isFree_1 : decode cX6_isFree 1 = .ok (.invokestatic 140, 3) := by decide +kernel
theorem dX6_isFree_4 : decode cX6_isFree 4 = .ok (.ifCond .eq 20, 3) := by decide +kernel
theorem dX6_isFree_7 : decode cX6_isFree 7 = .ok (.aload_n 0, 1) := by decide +kernel
theorem dX6_isFree_8 : decode cX6_isFree 8 = .ok (.getfield 15, 3) := by decide +kernel
theorem dX6_isFree_11 : decode cX6_isFree 11 = .ok (.iload_n 1, 1) := by decide +kernel
theorem dX6_isFree_12 : decode cX6_isFree 12 = .ok (.iaload, 1) := by decide +kernel
theorem dX6_isFree_13 : decode cX6_isFree 13 = .ok (.aload_n 0, 1) := by decide +kernel
theorem dX6_isFree_14 : decode cX6_isFree 14 = .ok (.getfield 18, 3) := by decide +kernel
theorem dX6_isFree_17 : decode cX6_isFree 17 = .ok (.if_icmp .eq 7, 3) := by decide +kernel
theorem dX6_isFree_20 : decode cX6_isFree 20 = .ok (.iconst 1, 1) := by decide +kernel
theorem dX6_isFree_21 : decode cX6_isFree 21 = .ok (.goto 4, 3) := by decide +kernel
theorem dX6_isFree_24 : decode cX6_isFree 24 = .ok (.iconst 0, 1) := by decide +kernel
theorem dX6_isFree_25 : decode cX6_isFree 25 = .ok (.ireturn, 1) := by decide +kernel
theorem dX6_take_0 : decode cX6_take 0 = .ok (.iload_n 1, 1) := by decide +kernel
theorem dX6_take_1 : decode cX6_take 1 = .ok (.invokestatic 140, 3) := by decide +kernel
theorem dX6_take_4 : decode cX6_take 4 = .ok (.ifCond .eq 13, 3) := by decide +kernel
theorem dX6_take_7 : decode cX6_take 7 = .ok (.aload_n 0, 1) := by decide +kernel
theorem dX6_take_8 : decode cX6_take 8 = .ok (.getfield 15, 3) := by decide +kernel
theorem dX6_take_11 : decode cX6_take 11 = .ok (.iload_n 1, 1) := by decide +kernel
theorem dX6_take_12 : decode cX6_take 12 = .ok (.aload_n 0, 1) := by decide +kernel
theorem dX6_take_13 : decode cX6_take 13 = .ok (.getfield 18, 3) := by decide +kernel
theorem dX6_take_16 : decode cX6_take 16 = .ok (.iastore, 1) := by decide +kernel
theorem dX6_take_17 : decode cX6_take 17 = .ok (.return_, 1) := by decide +kernel
theorem dX7_init_0 : decode cX7_init 0 = .ok (.aload_n 0, 1) := by decide +kernel
theorem dX7_init_1 : decode cX7_init 1 = .ok (.invokespecial 3, 3) := by decide +kernel
theorem dX7_init_4 : decode cX7_init 4 = .ok (.aload_n 0, 1) := by decide +kernel
theorem dX7_init_5 : decode cX7_init 5 = .ok (.bipush 12, 2) := by decide +kernel
theorem dX7_init_7 : decode cX7_init 7 = .ok (.newarray .int, 2) := by decide +kernel
theorem dX7_init_9 : decode cX7_init 9 = .ok (.putfield 9, 3) := by decide +kernel
theorem dX7_init_12 : decode cX7_init 12 = .ok (.iconst 0, 1) := by decide +kernel
theorem dX7_init_13 : decode cX7_init 13 = .ok (.istore_n 1, 1) := by decide +kernel
theorem dX7_init_14 : decode cX7_init 14 = .ok (.iload_n 1, 1) := by decide +kernel
theorem dX7_init_15 : decode cX7_init 15 = .ok (.bipush 12, 2) := by decide +kernel
theorem dX7_init_17 : decode cX7_init 17 = .ok (.if_icmp .ge 17, 3) := by decide +kernel
theorem dX7_init_20 : decode cX7_init 20 = .ok (.aload_n 0, 1) := by decide +kernel
theorem dX7_init_21 : decode cX7_init 21 = .ok (.getfield 9, 3) := by decide +kernel
theorem dX7_init_24 : decode cX7_init 24 = .ok (.iload_n 1, 1) := by decide +kernel
theorem dX7_init_25 : decode cX7_init 25 = .ok (.bipush 12, 2) := by decide +kernel
theorem dX7_init_27 : decode cX7_init 27 = .ok (.iastore, 1) := by decide +kernel
theorem dX7_init_28 : decode cX7_init 28 = .ok (.iinc 1 1, 3) := by decide +kernel
theorem dX7_init_31 : decode cX7_init 31 = .ok (.goto (-17), 3) := by decide +kernel
theorem dX7_init_34 : decode cX7_init 34 = .ok (.return_, 1) := by decide +kernel
theorem dX7_of_0 : decode cX7_of 0 = .ok (.iload_n 1, 1) := by decide +kernel
theorem dX7_of_1 : decode cX7_of 1 = .ok (.invokestatic 15, 3) := by decide +kernel
theorem dX7_of_4 : decode cX7_of 4 = .ok (.ifCond .eq 12, 3) := by decide +kernel
theorem dX7_of_7 : decode cX7_of 7 = .ok (.aload_n 0, 1) := by decide +kernel
theorem dX7_of_8 : decode cX7_of 8 = .ok (.getfield 9, 3) := by decide +kernel
theorem dX7_of_11 : decode cX7_of 11 = .ok (.iload_n 1, 1) := by decide +kernel
theorem dX7_of_12 : decode cX7_of 12 = .ok (.iaload, 1) := by decide +kernel
theorem dX7_of_13 : decode cX7_of 13 = .ok (.goto 4, 3) := by decide +kernel
theorem dX7_of_16 : decode cX7_of 16 = .ok (.iconst 0, 1) := by decide +kernel
theorem dX7_of_17 : decode cX7_of 17 = .ok (.ireturn, 1) := by decide +kernel
theorem dX7_put_0 : decode cX7_put 0 = .ok (.iload_n 1, 1) := by decide +kernel
theorem dX7_put_1 : decode cX7_put 1 = .ok (.invokestatic 15, 3) := by decide +kernel
theorem dX7_put_4 : decode cX7_put 4 = .ok (.ifCond .eq 10, 3) := by decide +kernel
theorem dX7_put_7 : decode cX7_put 7 = .ok (.aload_n 0, 1) := by decide +kernel
theorem dX7_put_8 : decode cX7_put 8 = .ok (.getfield 9, 3) := by decide +kernel
theorem dX7_put_11 : decode cX7_put 11 = .ok (.iload_n 1, 1) := by decide +kernel
theorem dX7_put_12 : decode cX7_put 12 = .ok (.iload_n 2, 1) := by decide +kernel
theorem dX7_put_13 : decode cX7_put 13 = .ok (.iastore, 1) := by decide +kernel
theorem dX7_put_14 : decode cX7_put 14 = .ok (.return_, 1) := by decide +kernel
theorem dX7_putAll_0 : decode cX7_putAll 0 = .ok (.iconst 0, 1) := by decide +kernel
theorem dX7_putAll_1 : decode cX7_putAll 1 = .ok (.iload_n 1, 1) := by decide +kernel
theorem dX7_putAll_2 : decode cX7_putAll 2 = .ok (.invokestatic 19, 3) := by decide +kernel
theorem dX7_putAll_5 : decode cX7_putAll 5 = .ok (.istore 4, 2) := by decide +kernel
theorem dX7_putAll_7 : decode cX7_putAll 7 = .ok (.iload 4, 2) := by decide +kernel
theorem dX7_putAll_9 : decode cX7_putAll 9 = .ok (.iload_n 2, 1) := by decide +kernel
theorem dX7_putAll_10 : decode cX7_putAll 10 = .ok (.if_icmp .gt 24, 3) := by decide +kernel
theorem dX7_putAll_13 : decode cX7_putAll 13 = .ok (.iload 4, 2) := by decide +kernel
theorem dX7_putAll_15 : decode cX7_putAll 15 = .ok (.bipush 12, 2) := by decide +kernel
theorem dX7_putAll_17 : decode cX7_putAll 17 = .ok (.if_icmp .ge 17, 3) := by decide +kernel
theorem dX7_putAll_20 : decode cX7_putAll 20 = .ok (.aload_n 0, 1) := by decide +kernel
theorem dX7_putAll_21 : decode cX7_putAll 21 = .ok (.getfield 9, 3) := by decide +kernel
theorem dX7_putAll_24 : decode cX7_putAll 24 = .ok (.iload 4, 2) := by decide +kernel
theorem dX7_putAll_26 : decode cX7_putAll 26 = .ok (.iload_n 3, 1) := by decide +kernel
theorem dX7_putAll_27 : decode cX7_putAll 27 = .ok (.iastore, 1) := by decide +kernel
theorem dX7_putAll_28 : decode cX7_putAll 28 = .ok (.iinc 4 1, 3) := by decide +kernel
theorem dX7_putAll_31 : decode cX7_putAll 31 = .ok (.goto (-24), 3) := by decide +kernel
theorem dX7_putAll_34 : decode cX7_putAll 34 = .ok (.return_, 1) := by decide +kernel
theorem dX7_minuteOf_0 : decode cX7_minuteOf 0 = .ok (.iload_n 2, 1) := by decide +kernel
theorem dX7_minuteOf_1 : decode cX7_minuteOf 1 = .ok (.ifCond .le 17, 3) := by decide +kernel
theorem dX7_minuteOf_4 : decode cX7_minuteOf 4 = .ok (.bipush 60, 2) := by decide +kernel
theorem dX7_minuteOf_6 : decode cX7_minuteOf 6 = .ok (.iload_n 0, 1) := by decide +kernel
theorem dX7_minuteOf_7 : decode cX7_minuteOf 7 = .ok (.imul, 1) := by decide +kernel
theorem dX7_minuteOf_8 : decode cX7_minuteOf 8 = .ok (.bipush 60, 2) := by decide +kernel
theorem dX7_minuteOf_10 : decode cX7_minuteOf 10 = .ok (.iload_n 1, 1) := by decide +kernel
theorem dX7_minuteOf_11 : decode cX7_minuteOf 11 = .ok (.imul, 1) := by decide +kernel
theorem dX7_minuteOf_12 : decode cX7_minuteOf 12 = .ok (.iload_n 2, 1) := by decide +kernel
theorem dX7_minuteOf_13 : decode cX7_minuteOf 13 = .ok (.idiv, 1) := by decide +kernel
theorem dX7_minuteOf_14 : decode cX7_minuteOf 14 = .ok (.iadd, 1) := by decide +kernel
theorem dX7_minuteOf_15 : decode cX7_minuteOf 15 = .ok (.goto 4, 3) := by decide +kernel
theorem dX7_minuteOf_18 : decode cX7_minuteOf 18 = .ok (.iconst (-1), 1) := by decide +kernel
theorem dX7_minuteOf_19 : decode cX7_minuteOf 19 = .ok (.ireturn, 1) := by decide +kernel
theorem dX7_countSlots_0 : decode cX7_countSlots 0 = .ok (.bipush 96, 2) := by decide +kernel
theorem dX7_countSlots_2 : decode cX7_countSlots 2 = .ok (.istore_n 1, 1) := by decide +kernel
theorem dX7_countSlots_3 : decode cX7_countSlots 3 = .ok (.iconst 0, 1) := by decide +kernel
theorem dX7_countSlots_4 : decode cX7_countSlots 4 = .ok (.istore_n 2, 1) := by decide +kernel
theorem dX7_countSlots_5 : decode cX7_countSlots 5 = .ok (.iload_n 2, 1) := by decide +kernel
theorem dX7_countSlots_6 : decode cX7_countSlots 6 = .ok (.bipush 12, 2) := by decide +kernel
theorem dX7_countSlots_8 : decode cX7_countSlots 8 = .ok (.if_icmp .ge 18, 3) := by decide +kernel
theorem dX7_countSlots_11 : decode cX7_countSlots 11 = .ok (.iload_n 1, 1) := by decide +kernel
theorem dX7_countSlots_12 : decode cX7_countSlots 12 = .ok (.aload_n 0, 1) := by decide +kernel
theorem dX7_countSlots_13 : decode cX7_countSlots 13 = .ok (.getfield 9, 3) := by decide +kernel
theorem dX7_countSlots_16 : decode cX7_countSlots 16 = .ok (.iload_n 2, 1) := by decide +kernel
theorem dX7_countSlots_17 : decode cX7_countSlots 17 = .ok (.iaload, 1) := by decide +kernel
theorem dX7_countSlots_18 : decode cX7_countSlots 18 = .ok (.iadd, 1) := by decide +kernel
theorem dX7_countSlots_19 : decode cX7_countSlots 19 = .ok (.istore_n 1, 1) := by decide +kernel
theorem dX7_countSlots_20 : decode cX7_countSlots 20 = .ok (.iinc 2 1, 3) := by decide +kernel
theorem dX7_countSlots_23 : decode cX7_countSlots 23 = .ok (.goto (-18), 3) := by decide +kernel
theorem dX7_countSlots_26 : decode cX7_countSlots 26 = .ok (.iload_n 1, 1) := by decide +kernel
theorem dX7_countSlots_27 : decode cX7_countSlots 27 = .ok (.ireturn, 1) := by decide +kernel
theorem dX7_slotMinute_0 : decode cX7_slotMinute 0 = .ok (.iload_n 1, 1) := by decide +kernel
theorem dX7_slotMinute_1 : decode cX7_slotMinute 1 = .ok (.istore_n 2, 1) := by decide +kernel
theorem dX7_slotMinute_2 : decode cX7_slotMinute 2 = .ok (.iconst 0, 1) := by decide +kernel
theorem dX7_slotMinute_3 : decode cX7_slotMinute 3 = .ok (.istore_n 3, 1) := by decide +kernel
theorem dX7_slotMinute_4 : decode cX7_slotMinute 4 = .ok (.iload_n 3, 1) := by decide +kernel
theorem dX7_slotMinute_5 : decode cX7_slotMinute 5 = .ok (.bipush 12, 2) := by decide +kernel
theorem dX7_slotMinute_7 : decode cX7_slotMinute 7 = .ok (.if_icmp .ge 40, 3) := by decide +kernel
theorem dX7_slotMinute_10 : decode cX7_slotMinute 10 = .ok (.iload_n 2, 1) := by decide +kernel
theorem dX7_slotMinute_11 : decode cX7_slotMinute 11 = .ok (.aload_n 0, 1) := by decide +kernel
theorem dX7_slotMinute_12 : decode cX7_slotMinute 12 = .ok (.getfield 9, 3) := by decide +kernel
theorem dX7_slotMinute_15 : decode cX7_slotMinute 15 = .ok (.iload_n 3, 1) := by decide +kernel
theorem dX7_slotMinute_16 : decode cX7_slotMinute 16 = .ok (.iaload, 1) := by decide +kernel
theorem dX7_slotMinute_17 : decode cX7_slotMinute 17 = .ok (.if_icmp .ge 15, 3) := by decide +kernel
theorem dX7_slotMinute_20 : decode cX7_slotMinute 20 = .ok (.iload_n 3, 1) := by decide +kernel
theorem dX7_slotMinute_21 : decode cX7_slotMinute 21 = .ok (.iload_n 2, 1) := by decide +kernel
theorem dX7_slotMinute_22 : decode cX7_slotMinute 22 = .ok (.aload_n 0, 1) := by decide +kernel
theorem dX7_slotMinute_23 : decode cX7_slotMinute 23 = .ok (.getfield 9, 3) := by decide +kernel
theorem dX7_slotMinute_26 : decode cX7_slotMinute 26 = .ok (.iload_n 3, 1) := by decide +kernel
theorem dX7_slotMinute_27 : decode cX7_slotMinute 27 = .ok (.iaload, 1) := by decide +kernel
theorem dX7_slotMinute_28 : decode cX7_slotMinute 28 = .ok (.invokestatic 25, 3) := by decide +kernel
theorem dX7_slotMinute_31 : decode cX7_slotMinute 31 = .ok (.ireturn, 1) := by decide +kernel
theorem dX7_slotMinute_32 : decode cX7_slotMinute 32 = .ok (.iload_n 2, 1) := by decide +kernel
theorem dX7_slotMinute_33 : decode cX7_slotMinute 33 = .ok (.aload_n 0, 1) := by decide +kernel
theorem dX7_slotMinute_34 : decode cX7_slotMinute 34 = .ok (.getfield 9, 3) := by decide +kernel
theorem dX7_slotMinute_37 : decode cX7_slotMinute 37 = .ok (.iload_n 3, 1) := by decide +kernel
theorem dX7_slotMinute_38 : decode cX7_slotMinute 38 = .ok (.iaload, 1) := by decide +kernel
theorem dX7_slotMinute_39 : decode cX7_slotMinute 39 = .ok (.isub, 1) := by decide +kernel
theorem dX7_slotMinute_40 : decode cX7_slotMinute 40 = .ok (.istore_n 2, 1) := by decide +kernel
theorem dX7_slotMinute_41 : decode cX7_slotMinute 41 = .ok (.iinc 3 1, 3) := by decide +kernel
theorem dX7_slotMinute_44 : decode cX7_slotMinute 44 = .ok (.goto (-40), 3) := by decide +kernel
theorem dX7_slotMinute_47 : decode cX7_slotMinute 47 = .ok (.iload_n 2, 1) := by decide +kernel
theorem dX7_slotMinute_48 : decode cX7_slotMinute 48 = .ok (.bipush 96, 2) := by decide +kernel
theorem dX7_slotMinute_50 : decode cX7_slotMinute 50 = .ok (.if_icmp .ge 13, 3) := by decide +kernel
theorem dX7_slotMinute_53 : decode cX7_slotMinute 53 = .ok (.sipush 720, 3) := by decide +kernel
theorem dX7_slotMinute_56 : decode cX7_slotMinute 56 = .ok (.iconst 5, 1) := by decide +kernel
theorem dX7_slotMinute_57 : decode cX7_slotMinute 57 = .ok (.iload_n 2, 1) := by decide +kernel
theorem dX7_slotMinute_58 : decode cX7_slotMinute 58 = .ok (.imul, 1) := by decide +kernel
theorem dX7_slotMinute_59 : decode cX7_slotMinute 59 = .ok (.iadd, 1) := by decide +kernel
theorem dX7_slotMinute_60 : decode cX7_slotMinute 60 = .ok (.goto 5, 3) := by decide +kernel
theorem dX7_slotMinute_63 : decode cX7_slotMinute 63 = .ok (.bipush (-2), 2) := by decide +kernel
theorem dX7_slotMinute_65 : decode cX7_slotMinute 65 = .ok (.ireturn, 1) := by decide +kernel
theorem dX7_hasSlot_0 : decode cX7_hasSlot 0 = .ok (.iload_n 1, 1) := by decide +kernel
theorem dX7_hasSlot_1 : decode cX7_hasSlot 1 = .ok (.sipush 720, 3) := by decide +kernel
theorem dX7_hasSlot_4 : decode cX7_hasSlot 4 = .ok (.if_icmp .lt 22, 3) := by decide +kernel
theorem dX7_hasSlot_7 : decode cX7_hasSlot 7 = .ok (.iload_n 1, 1) := by decide +kernel
theorem dX7_hasSlot_8 : decode cX7_hasSlot 8 = .ok (.sipush 1200, 3) := by decide +kernel
theorem dX7_hasSlot_11 : decode cX7_hasSlot 11 = .ok (.if_icmp .ge 13, 3) := by decide +kernel
theorem dX7_hasSlot_14 : decode cX7_hasSlot 14 = .ok (.iload_n 1, 1) := by decide +kernel
theorem dX7_hasSlot_15 : decode cX7_hasSlot 15 = .ok (.iconst 5, 1) := by decide +kernel
theorem dX7_hasSlot_16 : decode cX7_hasSlot 16 = .ok (.irem, 1) := by decide +kernel
theorem dX7_hasSlot_17 : decode cX7_hasSlot 17 = .ok (.ifCond .ne 7, 3) := by decide +kernel
theorem dX7_hasSlot_20 : decode cX7_hasSlot 20 = .ok (.iconst 1, 1) := by decide +kernel
theorem dX7_hasSlot_21 : decode cX7_hasSlot 21 = .ok (.goto 4, 3) := by decide +kernel
theorem dX7_hasSlot_24 : decode cX7_hasSlot 24 = .ok (.iconst 0, 1) := by decide +kernel
theorem dX7_hasSlot_25 : decode cX7_hasSlot 25 = .ok (.ireturn, 1) := by decide +kernel
theorem dX7_hasSlot_26 : decode cX7_hasSlot 26 = .ok (.iload_n 1, 1) := by decide +kernel
theorem dX7_hasSlot_27 : decode cX7_hasSlot 27 = .ok (.bipush 60, 2) := by decide +kernel
theorem dX7_hasSlot_29 : decode cX7_hasSlot 29 = .ok (.idiv, 1) := by decide +kernel
theorem dX7_hasSlot_30 : decode cX7_hasSlot 30 = .ok (.istore_n 2, 1) := by decide +kernel
theorem dX7_hasSlot_31 : decode cX7_hasSlot 31 = .ok (.aload_n 0, 1) := by decide +kernel
theorem dX7_hasSlot_32 : decode cX7_hasSlot 32 = .ok (.iload_n 2, 1) := by decide +kernel
theorem dX7_hasSlot_33 : decode cX7_hasSlot 33 = .ok (.invokevirtual 29, 3) := by decide +kernel
theorem dX7_hasSlot_36 : decode cX7_hasSlot 36 = .ok (.istore_n 3, 1) := by decide +kernel
theorem dX7_hasSlot_37 : decode cX7_hasSlot 37 = .ok (.iconst 0, 1) := by decide +kernel
theorem dX7_hasSlot_38 : decode cX7_hasSlot 38 = .ok (.istore 4, 2) := by decide +kernel
theorem dX7_hasSlot_40 : decode cX7_hasSlot 40 = .ok (.iload 4, 2) := by decide +kernel
theorem dX7_hasSlot_42 : decode cX7_hasSlot 42 = .ok (.iload_n 3, 1) := by decide +kernel
theorem dX7_hasSlot_43 : decode cX7_hasSlot 43 = .ok (.if_icmp .ge 22, 3) := by decide +kernel
theorem dX7_hasSlot_46 : decode cX7_hasSlot 46 = .ok (.iload_n 2, 1) := by decide +kernel
theorem dX7_hasSlot_47 : decode cX7_hasSlot 47 = .ok (.iload 4, 2) := by decide +kernel
theorem dX7_hasSlot_49 : decode cX7_hasSlot 49 = .ok (.iload_n 3, 1) := by decide +kernel
theorem dX7_hasSlot_50 : decode cX7_hasSlot 50 = .ok (.invokestatic 25, 3) := by decide +kernel
theorem dX7_hasSlot_53 : decode cX7_hasSlot 53 = .ok (.iload_n 1, 1) := by decide +kernel
theorem dX7_hasSlot_54 : decode cX7_hasSlot 54 = .ok (.if_icmp .ne 5, 3) := by decide +kernel
theorem dX7_hasSlot_57 : decode cX7_hasSlot 57 = .ok (.iconst 1, 1) := by decide +kernel
theorem dX7_hasSlot_58 : decode cX7_hasSlot 58 = .ok (.ireturn, 1) := by decide +kernel
theorem dX7_hasSlot_59 : decode cX7_hasSlot 59 = .ok (.iinc 4 1, 3) := by decide +kernel
theorem dX7_hasSlot_62 : decode cX7_hasSlot 62 = .ok (.goto (-22), 3) := by decide +kernel
theorem dX7_hasSlot_65 : decode cX7_hasSlot 65 = .ok (.iconst 0, 1) := by decide +kernel
theorem dX7_hasSlot_66 : decode cX7_hasSlot 66 = .ok (.ireturn, 1) := by decide +kernel
theorem dX7_copyFrom_0 : decode cX7_copyFrom 0 = .ok (.aload_n 1, 1) := by decide +kernel
theorem dX7_copyFrom_1 : decode cX7_copyFrom 1 = .ok (.getfield 9, 3) := by decide +kernel
theorem dX7_copyFrom_4 : decode cX7_copyFrom 4 = .ok (.iconst 0, 1) := by decide +kernel
theorem dX7_copyFrom_5 : decode cX7_copyFrom 5 = .ok (.aload_n 0, 1) := by decide +kernel
theorem dX7_copyFrom_6 : decode cX7_copyFrom 6 = .ok (.getfield 9, 3) := by decide +kernel
theorem dX7_copyFrom_9 : decode cX7_copyFrom 9 = .ok (.iconst 0, 1) := by decide +kernel
theorem dX7_copyFrom_10 : decode cX7_copyFrom 10 = .ok (.bipush 12, 2) := by decide +kernel
theorem dX7_copyFrom_12 : decode cX7_copyFrom 12 = .ok (.invokestatic 33, 3) := by decide +kernel
theorem dX7_copyFrom_15 : decode cX7_copyFrom 15 = .ok (.return_, 1) := by decide +kernel
theorem dX8_init_0 : decode cX8_init 0 = .ok (.aload_n 0, 1) := by decide +kernel
theorem dX8_init_1 : decode cX8_init 1 = .ok (.invokespecial 3, 3) := by decide +kernel
theorem dX8_init_4 : decode cX8_init 4 = .ok (.return_, 1) := by decide +kernel
theorem dX8_read_0 : decode cX8_read 0 = .ok (.aload_n 3, 1) := by decide +kernel
theorem dX8_read_1 : decode cX8_read 1 = .ok (.iconst 0, 1) := by decide +kernel
theorem dX8_read_2 : decode cX8_read 2 = .ok (.putfield 9, 3) := by decide +kernel
theorem dX8_read_5 : decode cX8_read 5 = .ok (.aload_n 0, 1) := by decide +kernel
theorem dX8_read_6 : decode cX8_read 6 = .ok (.iload_n 2, 1) := by decide +kernel
theorem dX8_read_7 : decode cX8_read 7 = .ok (.putfield 15, 3) := by decide +kernel
theorem dX8_read_10 : decode cX8_read 10 = .ok (.aload_n 0, 1) := by decide +kernel
theorem dX8_read_11 : decode cX8_read 11 = .ok (.iconst 0, 1) := by decide +kernel
theorem dX8_read_12 : decode cX8_read 12 = .ok (.putfield 20, 3) := by decide +kernel
theorem dX8_read_15 : decode cX8_read 15 = .ok (.aload_n 0, 1) := by decide +kernel
theorem dX8_read_16 : decode cX8_read 16 = .ok (.iconst 0, 1) := by decide +kernel
theorem dX8_read_17 : decode cX8_read 17 = .ok (.putfield 23, 3) := by decide +kernel
theorem dX8_read_20 : decode cX8_read 20 = .ok (.iconst 0, 1) := by decide +kernel
theorem dX8_read_21 : decode cX8_read 21 = .ok (.istore 4, 2) := by decide +kernel
theorem dX8_read_23 : decode cX8_read 23 = .ok (.iload 4, 2) := by decide +kernel
theorem dX8_read_25 : decode cX8_read 25 = .ok (.bipush 20, 2) := by decide +kernel
theorem dX8_read_27 : decode cX8_read 27 = .ok (.if_icmp .gt 50, 3) := by decide +kernel
theorem dX8_read_30 : decode cX8_read 30 = .ok (.aload_n 0, 1) := by decide +kernel
theorem dX8_read_31 : decode cX8_read 31 = .ok (.aload_n 1, 1) := by decide +kernel
theorem dX8_read_32 : decode cX8_read 32 = .ok (.aload_n 3, 1) := by decide +kernel
theorem dX8_read_33 : decode cX8_read 33 = .ok (.invokevirtual 26, 3) := by decide +kernel
theorem dX8_read_36 : decode cX8_read 36 = .ok (.aload_n 0, 1) := by decide +kernel
theorem dX8_read_37 : decode cX8_read 37 = .ok (.aload_n 1, 1) := by decide +kernel
theorem dX8_read_38 : decode cX8_read 38 = .ok (.invokevirtual 30, 3) := by decide +kernel
theorem dX8_read_41 : decode cX8_read 41 = .ok (.aload_n 0, 1) := by decide +kernel
theorem dX8_read_42 : decode cX8_read 42 = .ok (.getfield 23, 3) := by decide +kernel
theorem dX8_read_45 : decode cX8_read 45 = .ok (.ifCond .ne 14, 3) := by decide +kernel
theorem dX8_read_48 : decode cX8_read 48 = .ok (.aload_n 0, 1) := by decide +kernel
theorem dX8_read_49 : decode cX8_read 49 = .ok (.getfield 20, 3) := by decide +kernel
theorem dX8_read_52 : decode cX8_read 52 = .ok (.aload_n 0, 1) := by decide +kernel
theorem dX8_read_53 : decode cX8_read 53 = .ok (.getfield 15, 3) := by decide +kernel
theorem dX8_read_56 : decode cX8_read 56 = .ok (.if_icmp .lt 8, 3) := by decide +kernel
theorem dX8_read_59 : decode cX8_read 59 = .ok (.aload_n 0, 1) := by decide +kernel
theorem dX8_read_60 : decode cX8_read 60 = .ok (.getfield 23, 3) := by decide +kernel
theorem dX8_read_63 : decode cX8_read 63 = .ok (.ireturn, 1) := by decide +kernel
theorem dX8_read_64 : decode cX8_read 64 = .ok (.aload_n 0, 1) := by decide +kernel
theorem dX8_read_65 : decode cX8_read 65 = .ok (.aload_n 1, 1) := by decide +kernel
theorem dX8_read_66 : decode cX8_read 66 = .ok (.bipush 59, 2) := by decide +kernel
theorem dX8_read_68 : decode cX8_read 68 = .ok (.invokevirtual 34, 3) := by decide +kernel
theorem dX8_read_71 : decode cX8_read 71 = .ok (.iinc 4 1, 3) := by decide +kernel
theorem dX8_read_74 : decode cX8_read 74 = .ok (.goto (-51), 3) := by decide +kernel
theorem dX8_read_77 : decode cX8_read 77 = .ok (.aload_n 0, 1) := by decide +kernel
theorem dX8_read_78 : decode cX8_read 78 = .ok (.getfield 23, 3) := by decide +kernel
theorem dX8_read_81 : decode cX8_read 81 = .ok (.ireturn, 1) := by decide +kernel
theorem dX8_readFlight_0 : decode cX8_readFlight 0 = .ok (.aload_n 0, 1) := by decide +kernel
theorem dX8_readFlight_1 : decode cX8_readFlight 1 = .ok (.aload_n 1, 1) := by decide +kernel
theorem dX8_readFlight_2 : decode cX8_readFlight 2 = .ok (.aload_n 2, 1) := by decide +kernel
theorem dX8_readFlight_3 : decode cX8_readFlight 3 = .ok (.invokevirtual 38, 3) := by decide +kernel
theorem dX8_readFlight_6 : decode cX8_readFlight 6 = .ok (.invokevirtual 42, 3) := by decide +kernel
theorem dX8_readFlight_9 : decode cX8_readFlight 9 = .ok (.istore_n 3, 1) := by decide +kernel
theorem dX8_readFlight_10 : decode cX8_readFlight 10 = .ok (.aload_n 0, 1) := by decide +kernel
theorem dX8_readFlight_11 : decode cX8_readFlight 11 = .ok (.aload_n 1, 1) := by decide +kernel
theorem dX8_readFlight_12 : decode cX8_readFlight 12 = .ok (.sipush 719, 3) := by decide +kernel
theorem dX8_readFlight_15 : decode cX8_readFlight 15 = .ok (.invokevirtual 46, 3) := by decide +kernel
theorem dX8_readFlight_18 : decode cX8_readFlight 18 = .ok (.istore 4, 2) := by decide +kernel
theorem dX8_readFlight_20 : decode cX8_readFlight 20 = .ok (.aload_n 0, 1) := by decide +kernel
theorem dX8_readFlight_21 : decode cX8_readFlight 21 = .ok (.aload_n 1, 1) := by decide +kernel
theorem dX8_readFlight_22 : decode cX8_readFlight 22 = .ok (.invokevirtual 30, 3) := by decide +kernel
theorem dX8_readFlight_25 : decode cX8_readFlight 25 = .ok (.aload_n 0, 1) := by decide +kernel
theorem dX8_readFlight_26 : decode cX8_readFlight 26 = .ok (.aload_n 1, 1) := by decide +kernel
theorem dX8_readFlight_27 : decode cX8_readFlight 27 = .ok (.bipush 47, 2) := by decide +kernel
theorem dX8_readFlight_29 : decode cX8_readFlight 29 = .ok (.invokevirtual 34, 3) := by decide +kernel
theorem dX8_readFlight_32 : decode cX8_readFlight 32 = .ok (.aload_n 0, 1) := by decide +kernel
theorem dX8_readFlight_33 : decode cX8_readFlight 33 = .ok (.aload_n 1, 1) := by decide +kernel
theorem dX8_readFlight_34 : decode cX8_readFlight 34 = .ok (.sipush 300, 3) := by decide +kernel
theorem dX8_readFlight_37 : decode cX8_readFlight 37 = .ok (.invokevirtual 46, 3) := by decide +kernel
theorem dX8_readFlight_40 : decode cX8_readFlight 40 = .ok (.istore 5, 2) := by decide +kernel
theorem dX8_readFlight_42 : decode cX8_readFlight 42 = .ok (.aload_n 0, 1) := by decide +kernel
theorem dX8_readFlight_43 : decode cX8_readFlight 43 = .ok (.aload_n 1, 1) := by decide +kernel
theorem dX8_readFlight_44 : decode cX8_readFlight 44 = .ok (.invokevirtual 50, 3) := by decide +kernel
theorem dX8_readFlight_47 : decode cX8_readFlight 47 = .ok (.istore 6, 2) := by decide +kernel
theorem dX8_readFlight_49 : decode cX8_readFlight 49 = .ok (.aload_n 0, 1) := by decide +kernel
theorem dX8_readFlight_50 : decode cX8_readFlight 50 = .ok (.getfield 23, 3) := by decide +kernel
theorem dX8_readFlight_53 : decode cX8_readFlight 53 = .ok (.ifCond .ne 15, 3) := by decide +kernel
theorem dX8_readFlight_56 : decode cX8_readFlight 56 = .ok (.aload_n 2, 1) := by decide +kernel
theorem dX8_readFlight_57 : decode cX8_readFlight 57 = .ok (.iload_n 3, 1) := by decide +kernel
theorem dX8_readFlight_58 : decode cX8_readFlight 58 = .ok (.iload 4, 2) := by decide +kernel
theorem dX8_readFlight_60 : decode cX8_readFlight 60 = .ok (.iload 5, 2) := by decide +kernel
theorem dX8_readFlight_62 : decode cX8_readFlight 62 = .ok (.iload 6, 2) := by decide +kernel
theorem dX8_readFlight_64 : decode cX8_readFlight 64 = .ok (.invokevirtual 54, 3) := by decide +kernel
theorem dX8_readFlight_67 : decode cX8_readFlight 67 = .ok (.pop, 1) := by decide +kernel
theorem dX8_readFlight_68 : decode cX8_readFlight 68 = .ok (.return_, 1) := by decide +kernel
theorem dX8_readLetter_0 : decode cX8_readLetter 0 = .ok (.aload_n 0, 1) := by decide +kernel
theorem dX8_readLetter_1 : decode cX8_readLetter 1 = .ok (.aload_n 1, 1) := by decide +kernel
theorem dX8_readLetter_2 : decode cX8_readLetter 2 = .ok (.invokevirtual 30, 3) := by decide +kernel
theorem dX8_readLetter_5 : decode cX8_readLetter 5 = .ok (.aload_n 0, 1) := by decide +kernel
theorem dX8_readLetter_6 : decode cX8_readLetter 6 = .ok (.aload_n 1, 1) := by decide +kernel
theorem dX8_readLetter_7 : decode cX8_readLetter 7 = .ok (.invokevirtual 58, 3) := by decide +kernel
theorem dX8_readLetter_10 : decode cX8_readLetter 10 = .ok (.istore_n 3, 1) := by decide +kernel
theorem dX8_readLetter_11 : decode cX8_readLetter 11 = .ok (.iload_n 3, 1) := by decide +kernel
theorem dX8_readLetter_12 : decode cX8_readLetter 12 = .ok (.bipush 97, 2) := by decide +kernel
theorem dX8_readLetter_14 : decode cX8_readLetter 14 = .ok (.if_icmp .lt 9, 3) := by decide +kernel
theorem dX8_readLetter_17 : decode cX8_readLetter 17 = .ok (.iload_n 3, 1) := by decide +kernel
theorem dX8_readLetter_18 : decode cX8_readLetter 18 = .ok (.bipush 101, 2) := by decide +kernel
theorem dX8_readLetter_20 : decode cX8_readLetter 20 = .ok (.if_icmp .le 15, 3) := by decide +kernel
theorem dX8_readLetter_23 : decode cX8_readLetter 23 = .ok (.aload_n 0, 1) := by decide +kernel
theorem dX8_readLetter_24 : decode cX8_readLetter 24 = .ok (.iconst 1, 1) := by decide +kernel
theorem dX8_readLetter_25 : decode cX8_readLetter 25 = .ok (.aload_n 0, 1) := by decide +kernel
theorem dX8_readLetter_26 : decode cX8_readLetter 26 = .ok (.getfield 20, 3) := by decide +kernel
theorem dX8_readLetter_29 : decode cX8_readLetter 29 = .ok (.invokevirtual 61, 3) := by decide +kernel
theorem dX8_readLetter_32 : decode cX8_readLetter 32 = .ok (.goto 16, 3) := by decide +kernel
theorem dX8_readLetter_35 : decode cX8_readLetter 35 = .ok (.iload_n 2, 1) := by decide +kernel
theorem dX8_readLetter_36 : decode cX8_readLetter 36 = .ok (.ifCond .eq 12, 3) := by decide +kernel
theorem dX8_readLetter_39 : decode cX8_readLetter 39 = .ok (.aload_n 0, 1) := by decide +kernel
theorem dX8_readLetter_40 : decode cX8_readLetter 40 = .ok (.iconst 3, 1) := by decide +kernel
theorem dX8_readLetter_41 : decode cX8_readLetter 41 = .ok (.aload_n 0, 1) := by decide +kernel
theorem dX8_readLetter_42 : decode cX8_readLetter 42 = .ok (.getfield 20, 3) := by decide +kernel
theorem dX8_readLetter_45 : decode cX8_readLetter 45 = .ok (.invokevirtual 61, 3) := by decide +kernel
theorem dX8_readLetter_48 : decode cX8_readLetter 48 = .ok (.aload_n 0, 1) := by decide +kernel
theorem dX8_readLetter_49 : decode cX8_readLetter 49 = .ok (.dup, 1) := by decide +kernel
theorem dX8_readLetter_50 : decode cX8_readLetter 50 = .ok (.getfield 20, 3) := by decide +kernel
theorem dX8_readLetter_53 : decode cX8_readLetter 53 = .ok (.iconst 1, 1) := by decide +kernel
theorem dX8_readLetter_54 : decode cX8_readLetter 54 = .ok (.iadd, 1) := by decide +kernel
theorem dX8_readLetter_55 : decode cX8_readLetter 55 = .ok (.putfield 20, 3) := by decide +kernel
theorem dX8_readLetter_58 : decode cX8_readLetter 58 = .ok (.iload_n 3, 1) := by decide +kernel
theorem dX8_readLetter_59 : decode cX8_readLetter 59 = .ok (.bipush 97, 2) := by decide +kernel
theorem dX8_readLetter_61 : decode cX8_readLetter 61 = .ok (.isub, 1) := by decide +kernel
theorem dX8_readLetter_62 : decode cX8_readLetter 62 = .ok (.ireturn, 1) := by decide +kernel
theorem dX8_readNumber_0 : decode cX8_readNumber 0 = .ok (.aload_n 0, 1) := by decide +kernel
theorem dX8_readNumber_1 : decode cX8_readNumber 1 = .ok (.aload_n 1, 1) := by decide +kernel
theorem dX8_readNumber_2 : decode cX8_readNumber 2 = .ok (.invokevirtual 30, 3) := by decide +kernel
theorem dX8_readNumber_5 : decode cX8_readNumber 5 = .ok (.aload_n 0, 1) := by decide +kernel
theorem dX8_readNumber_6 : decode cX8_readNumber 6 = .ok (.getfield 20, 3) := by decide +kernel
theorem dX8_readNumber_9 : decode cX8_readNumber 9 = .ok (.istore_n 3, 1) := by decide +kernel
theorem dX8_readNumber_10 : decode cX8_readNumber 10 = .ok (.iconst 0, 1) := by decide +kernel
theorem dX8_readNumber_11 : decode cX8_readNumber 11 = .ok (.istore 4, 2) := by decide +kernel
theorem dX8_readNumber_13 : decode cX8_readNumber 13 = .ok (.iconst 0, 1) := by decide +kernel
theorem dX8_readNumber_14 : decode cX8_readNumber 14 = .ok (.istore 5, 2) := by decide +kernel
theorem dX8_readNumber_16 : decode cX8_readNumber 16 = .ok (.iload 5, 2) := by decide +kernel
theorem dX8_readNumber_18 : decode cX8_readNumber 18 = .ok (.iconst 3, 1) := by decide +kernel
theorem dX8_readNumber_19 : decode cX8_readNumber 19 = .ok (.if_icmp .ge 46, 3) := by decide +kernel
theorem dX8_readNumber_22 : decode cX8_readNumber 22 = .ok (.aload_n 0, 1) := by decide +kernel
theorem dX8_readNumber_23 : decode cX8_readNumber 23 = .ok (.aload_n 1, 1) := by decide +kernel
theorem dX8_readNumber_24 : decode cX8_readNumber 24 = .ok (.invokevirtual 58, 3) := by decide +kernel
theorem dX8_readNumber_27 : decode cX8_readNumber 27 = .ok (.invokestatic 65, 3) := by decide +kernel
theorem dX8_readNumber_30 : decode cX8_readNumber 30 = .ok (.ifCond .eq 35, 3) := by decide +kernel
theorem dX8_readNumber_33 : decode cX8_readNumber 33 = .ok (.bipush 10, 2) := by decide +kernel
theorem dX8_readNumber_35 : decode cX8_readNumber 35 = .ok (.iload 4, 2) := by decide +kernel
theorem dX8_readNumber_37 : decode cX8_readNumber 37 = .ok (.imul, 1) := by decide +kernel
theorem dX8_readNumber_38 : decode cX8_readNumber 38 = .ok (.aload_n 0, 1) := by decide +kernel
theorem dX8_readNumber_39 : decode cX8_readNumber 39 = .ok (.aload_n 1, 1) := by decide +kernel
theorem dX8_readNumber_40 : decode cX8_readNumber 40 = .ok (.invokevirtual 58, 3) := by decide +kernel
theorem dX8_readNumber_43 : decode cX8_readNumber 43 = .ok (.iadd, 1) := by decide +kernel
theorem dX8_readNumber_44 : decode cX8_readNumber 44 = .ok (.bipush 48, 2) := by decide +kernel
theorem dX8_readNumber_46 : decode cX8_readNumber 46 = .ok (.isub, 1) := by decide +kernel
theorem dX8_readNumber_47 : decode cX8_readNumber 47 = .ok (.istore 4, 2) := by decide +kernel
theorem dX8_readNumber_49 : decode cX8_readNumber 49 = .ok (.aload_n 0, 1) := by decide +kernel
theorem dX8_readNumber_50 : decode cX8_readNumber 50 = .ok (.dup, 1) := by decide +kernel
theorem dX8_readNumber_51 : decode cX8_readNumber 51 = .ok (.getfield 20, 3) := by decide +kernel
theorem dX8_readNumber_54 : decode cX8_readNumber 54 = .ok (.iconst 1, 1) := by decide +kernel
theorem dX8_readNumber_55 : decode cX8_readNumber 55 = .ok (.iadd, 1) := by decide +kernel
theorem dX8_readNumber_56 : decode cX8_readNumber 56 = .ok (.putfield 20, 3) := by decide +kernel
theorem dX8_readNumber_59 : decode cX8_readNumber 59 = .ok (.iinc 5 1, 3) := by decide +kernel
theorem dX8_readNumber_62 : decode cX8_readNumber 62 = .ok (.goto (-46), 3) := by decide +kernel
theorem dX8_readNumber_65 : decode cX8_readNumber 65 = .ok (.aload_n 0, 1) := by decide +kernel
theorem dX8_readNumber_66 : decode cX8_readNumber 66 = .ok (.getfield 20, 3) := by decide +kernel
theorem dX8_readNumber_69 : decode cX8_readNumber 69 = .ok (.iload_n 3, 1) := by decide +kernel
theorem dX8_readNumber_70 : decode cX8_readNumber 70 = .ok (.if_icmp .eq 14, 3) := by decide +kernel
theorem dX8_readNumber_73 : decode cX8_readNumber 73 = .ok (.aload_n 0, 1) := by decide +kernel
theorem dX8_readNumber_74 : decode cX8_readNumber 74 = .ok (.aload_n 1, 1) := by decide +kernel
theorem dX8_readNumber_75 : decode cX8_readNumber 75 = .ok (.invokevirtual 58, 3) := by decide +kernel
theorem dX8_readNumber_78 : decode cX8_readNumber 78 = .ok (.invokestatic 65, 3) := by decide +kernel
theorem dX8_readNumber_81 : decode cX8_readNumber 81 = .ok (.ifCond .eq 15, 3) := by decide +kernel
theorem dX8_readNumber_84 : decode cX8_readNumber 84 = .ok (.aload_n 0, 1) := by decide +kernel
theorem dX8_readNumber_85 : decode cX8_readNumber 85 = .ok (.iconst 1, 1) := by decide +kernel
theorem dX8_readNumber_86 : decode cX8_readNumber 86 = .ok (.aload_n 0, 1) := by decide +kernel
theorem dX8_readNumber_87 : decode cX8_readNumber 87 = .ok (.getfield 20, 3) := by decide +kernel
theorem dX8_readNumber_90 : decode cX8_readNumber 90 = .ok (.invokevirtual 61, 3) := by decide +kernel
theorem dX8_readNumber_93 : decode cX8_readNumber 93 = .ok (.goto 15, 3) := by decide +kernel
theorem dX8_readNumber_96 : decode cX8_readNumber 96 = .ok (.iload 4, 2) := by decide +kernel
theorem dX8_readNumber_98 : decode cX8_readNumber 98 = .ok (.iload_n 2, 1) := by decide +kernel
theorem dX8_readNumber_99 : decode cX8_readNumber 99 = .ok (.if_icmp .le 9, 3) := by decide +kernel
theorem dX8_readNumber_102 : decode cX8_readNumber 102 = .ok (.aload_n 0, 1) := by decide +kernel
theorem dX8_readNumber_103 : decode cX8_readNumber 103 = .ok (.iconst 2, 1) := by decide +kernel
theorem dX8_readNumber_104 : decode cX8_readNumber 104 = .ok (.iload_n 3, 1) := by decide +kernel
theorem dX8_readNumber_105 : decode cX8_readNumber 105 = .ok (.invokevirtual 61, 3) := by decide +kernel
theorem dX8_readNumber_108 : decode cX8_readNumber 108 = .ok (.iload 4, 2) := by decide +kernel
theorem dX8_readNumber_110 : decode cX8_readNumber 110 = .ok (.ireturn, 1) := by decide +kernel
theorem dX8_readWeight_0 : decode cX8_readWeight 0 = .ok (.aload_n 0, 1) := by decide +kernel
theorem dX8_readWeight_1 : decode cX8_readWeight 1 = .ok (.aload_n 1, 1) := by decide +kernel
theorem dX8_readWeight_2 : decode cX8_readWeight 2 = .ok (.invokevirtual 30, 3) := by decide +kernel
theorem dX8_readWeight_5 : decode cX8_readWeight 5 = .ok (.aload_n 0, 1) := by decide +kernel
theorem dX8_readWeight_6 : decode cX8_readWeight 6 = .ok (.aload_n 1, 1) := by decide +kernel
theorem dX8_readWeight_7 : decode cX8_readWeight 7 = .ok (.invokevirtual 58, 3) := by decide +kernel
theorem dX8_readWeight_10 : decode cX8_readWeight 10 = .ok (.bipush 42, 2) := by decide +kernel
theorem dX8_readWeight_12 : decode cX8_readWeight 12 = .ok (.if_icmp .eq 5, 3) := by decide +kernel
theorem dX8_readWeight_15 : decode cX8_readWeight 15 = .ok (.iconst 1, 1) := by decide +kernel
theorem dX8_readWeight_16 : decode cX8_readWeight 16 = .ok (.ireturn, 1) := by decide +kernel
theorem dX8_readWeight_17 : decode cX8_readWeight 17 = .ok (.aload_n 0, 1) := by decide +kernel
theorem dX8_readWeight_18 : decode cX8_readWeight 18 = .ok (.dup, 1) := by decide +kernel
theorem dX8_readWeight_19 : decode cX8_readWeight 19 = .ok (.getfield 20, 3) := by decide +kernel
theorem dX8_readWeight_22 : decode cX8_readWeight 22 = .ok (.iconst 1, 1) := by decide +kernel
theorem dX8_readWeight_23 : decode cX8_readWeight 23 = .ok (.iadd, 1) := by decide +kernel
theorem dX8_readWeight_24 : decode cX8_readWeight 24 = .ok (.putfield 20, 3) := by decide +kernel
theorem dX8_readWeight_27 : decode cX8_readWeight 27 = .ok (.aload_n 0, 1) := by decide +kernel
theorem dX8_readWeight_28 : decode cX8_readWeight 28 = .ok (.aload_n 1, 1) := by decide +kernel
theorem dX8_readWeight_29 : decode cX8_readWeight 29 = .ok (.invokevirtual 30, 3) := by decide +kernel
theorem dX8_readWeight_32 : decode cX8_readWeight 32 = .ok (.aload_n 0, 1) := by decide +kernel
theorem dX8_readWeight_33 : decode cX8_readWeight 33 = .ok (.aload_n 1, 1) := by decide +kernel
theorem dX8_readWeight_34 : decode cX8_readWeight 34 = .ok (.invokevirtual 58, 3) := by decide +kernel
theorem dX8_readWeight_37 : decode cX8_readWeight 37 = .ok (.istore_n 2, 1) := by decide +kernel
theorem dX8_readWeight_38 : decode cX8_readWeight 38 = .ok (.iload_n 2, 1) := by decide +kernel
theorem dX8_readWeight_39 : decode cX8_readWeight 39 = .ok (.invokestatic 65, 3) := by decide +kernel
theorem dX8_readWeight_42 : decode cX8_readWeight 42 = .ok (.ifCond .ne 15, 3) := by decide +kernel
theorem dX8_readWeight_45 : decode cX8_readWeight 45 = .ok (.aload_n 0, 1) := by decide +kernel
theorem dX8_readWeight_46 : decode cX8_readWeight 46 = .ok (.iconst 1, 1) := by decide +kernel
theorem dX8_readWeight_47 : decode cX8_readWeight 47 = .ok (.aload_n 0, 1) := by decide +kernel
theorem dX8_readWeight_48 : decode cX8_readWeight 48 = .ok (.getfield 20, 3) := by decide +kernel
theorem dX8_readWeight_51 : decode cX8_readWeight 51 = .ok (.invokevirtual 61, 3) := by decide +kernel
theorem dX8_readWeight_54 : decode cX8_readWeight 54 = .ok (.goto 18, 3) := by decide +kernel
theorem dX8_readWeight_57 : decode cX8_readWeight 57 = .ok (.iload_n 2, 1) := by decide +kernel
theorem dX8_readWeight_58 : decode cX8_readWeight 58 = .ok (.bipush 48, 2) := by decide +kernel
theorem dX8_readWeight_60 : decode cX8_readWeight 60 = .ok (.if_icmp .ne 12, 3) := by decide +kernel
theorem dX8_readWeight_63 : decode cX8_readWeight 63 = .ok (.aload_n 0, 1) := by decide +kernel
theorem dX8_readWeight_64 : decode cX8_readWeight 64 = .ok (.iconst 2, 1) := by decide +kernel
theorem dX8_readWeight_65 : decode cX8_readWeight 65 = .ok (.aload_n 0, 1) := by decide +kernel
theorem dX8_readWeight_66 : decode cX8_readWeight 66 = .ok (.getfield 20, 3) := by decide +kernel
theorem dX8_readWeight_69 : decode cX8_readWeight 69 = .ok (.invokevirtual 61, 3) := by decide +kernel
theorem dX8_readWeight_72 : decode cX8_readWeight 72 = .ok (.aload_n 0, 1) := by decide +kernel
theorem dX8_readWeight_73 : decode cX8_readWeight 73 = .ok (.dup, 1) := by decide +kernel
theorem dX8_readWeight_74 : decode cX8_readWeight 74 = .ok (.getfield 20, 3) := by decide +kernel
theorem dX8_readWeight_77 : decode cX8_readWeight 77 = .ok (.iconst 1, 1) := by decide +kernel
theorem dX8_readWeight_78 : decode cX8_readWeight 78 = .ok (.iadd, 1) := by decide +kernel
theorem dX8_readWeight_79 : decode cX8_readWeight 79 = .ok (.putfield 20, 3) := by decide +kernel
theorem dX8_readWeight_82 : decode cX8_readWeight 82 = .ok (.iload_n 2, 1) := by decide +kernel
theorem dX8_readWeight_83 : decode cX8_readWeight 83 = .ok (.bipush 48, 2) := by decide +kernel
theorem dX8_readWeight_85 : decode cX8_readWeight 85 = .ok (.isub, 1) := by decide +kernel
theorem dX8_readWeight_86 : decode cX8_readWeight 86 = .ok (.ireturn, 1) := by decide +kernel
theorem dX8_expect_0 : decode cX8_expect 0 = .ok (.aload_n 0, 1) := by decide +kernel
theorem dX8_expect_1 : decode cX8_expect 1 = .ok (.aload_n 1, 1) := by decide +kernel
theorem dX8_expect_2 : decode cX8_expect 2 = .ok (.invokevirtual 58, 3) := by decide +kernel
theorem dX8_expect_5 : decode cX8_expect 5 = .ok (.iload_n 2, 1) := by decide +kernel
theorem dX8_expect_6 : decode cX8_expect 6 = .ok (.if_icmp .eq 12, 3) := by decide +kernel
theorem dX8_expect_9 : decode cX8_expect 9 = .ok (.aload_n 0, 1) := by decide +kernel
theorem dX8_expect_10 : decode cX8_expect 10 = .ok (.iconst 1, 1) := by decide +kernel
theorem dX8_expect_11 : decode cX8_expect 11 = .ok (.aload_n 0, 1) := by decide +kernel
theorem dX8_expect_12 : decode cX8_expect 12 = .ok (.getfield 20, 3) := by decide +kernel
theorem dX8_expect_15 : decode cX8_expect 15 = .ok (.invokevirtual 61, 3) := by decide +kernel
theorem dX8_expect_18 : decode cX8_expect 18 = .ok (.aload_n 0, 1) := by decide +kernel
theorem dX8_expect_19 : decode cX8_expect 19 = .ok (.dup, 1) := by decide +kernel
theorem dX8_expect_20 : decode cX8_expect 20 = .ok (.getfield 20, 3) := by decide +kernel
theorem dX8_expect_23 : decode cX8_expect 23 = .ok (.iconst 1, 1) := by decide +kernel
theorem dX8_expect_24 : decode cX8_expect 24 = .ok (.iadd, 1) := by decide +kernel
theorem dX8_expect_25 : decode cX8_expect 25 = .ok (.putfield 20, 3) := by decide +kernel
theorem dX8_expect_28 : decode cX8_expect 28 = .ok (.return_, 1) := by decide +kernel
theorem dX8_skipBlanks_0 : decode cX8_skipBlanks 0 = .ok (.aload_n 0, 1) := by decide +kernel
theorem dX8_skipBlanks_1 : decode cX8_skipBlanks 1 = .ok (.getfield 20, 3) := by decide +kernel
theorem dX8_skipBlanks_4 : decode cX8_skipBlanks 4 = .ok (.aload_n 0, 1) := by decide +kernel
theorem dX8_skipBlanks_5 : decode cX8_skipBlanks 5 = .ok (.getfield 15, 3) := by decide +kernel
theorem dX8_skipBlanks_8 : decode cX8_skipBlanks 8 = .ok (.if_icmp .ge 26, 3) := by decide +kernel
theorem dX8_skipBlanks_11 : decode cX8_skipBlanks 11 = .ok (.aload_n 0, 1) := by decide +kernel
theorem dX8_skipBlanks_12 : decode cX8_skipBlanks 12 = .ok (.aload_n 1, 1) := by decide +kernel
theorem dX8_skipBlanks_13 : decode cX8_skipBlanks 13 = .ok (.invokevirtual 58, 3) := by decide +kernel
theorem dX8_skipBlanks_16 : decode cX8_skipBlanks 16 = .ok (.bipush 32, 2) := by decide +kernel
theorem dX8_skipBlanks_18 : decode cX8_skipBlanks 18 = .ok (.if_icmp .ne 16, 3) := by decide +kernel
theorem dX8_skipBlanks_21 : decode cX8_skipBlanks 21 = .ok (.aload_n 0, 1) := by decide +kernel
theorem dX8_skipBlanks_22 : decode cX8_skipBlanks 22 = .ok (.dup, 1) := by decide +kernel
theorem dX8_skipBlanks_23 : decode cX8_skipBlanks 23 = .ok (.getfield 20, 3) := by decide +kernel
theorem dX8_skipBlanks_26 : decode cX8_skipBlanks 26 = .ok (.iconst 1, 1) := by decide +kernel
theorem dX8_skipBlanks_27 : decode cX8_skipBlanks 27 = .ok (.iadd, 1) := by decide +kernel
theorem dX8_skipBlanks_28 : decode cX8_skipBlanks 28 = .ok (.putfield 20, 3) := by decide +kernel
theorem dX8_skipBlanks_31 : decode cX8_skipBlanks 31 = .ok (.goto (-31), 3) := by decide +kernel
theorem dX8_skipBlanks_34 : decode cX8_skipBlanks 34 = .ok (.return_, 1) := by decide +kernel
theorem dX8_peek_0 : decode cX8_peek 0 = .ok (.aload_n 0, 1) := by decide +kernel
theorem dX8_peek_1 : decode cX8_peek 1 = .ok (.getfield 20, 3) := by decide +kernel
theorem dX8_peek_4 : decode cX8_peek 4 = .ok (.aload_n 0, 1) := by decide +kernel
theorem dX8_peek_5 : decode cX8_peek 5 = .ok (.getfield 15, 3) := by decide +kernel
theorem dX8_peek_8 : decode cX8_peek 8 = .ok (.if_icmp .ge 14, 3) := by decide +kernel
theorem dX8_peek_11 : decode cX8_peek 11 = .ok (.aload_n 1, 1) := by decide +kernel
theorem dX8_peek_12 : decode cX8_peek 12 = .ok (.aload_n 0, 1) := by decide +kernel
theorem dX8_peek_13 : decode cX8_peek 13 = .ok (.getfield 20, 3) := by decide +kernel
theorem dX8_peek_16 : decode cX8_peek 16 = .ok (.invokevirtual 69, 3) := by decide +kernel
theorem dX8_peek_19 : decode cX8_peek 19 = .ok (.goto 4, 3) := by decide +kernel
theorem dX8_peek_22 : decode cX8_peek 22 = .ok (.iconst (-1), 1) := by decide +kernel
theorem dX8_peek_23 : decode cX8_peek 23 = .ok (.ireturn, 1) := by decide +kernel
theorem dX8_fail_0 : decode cX8_fail 0 = .ok (.aload_n 0, 1) := by decide +kernel
theorem dX8_fail_1 : decode cX8_fail 1 = .ok (.getfield 23, 3) := by decide +kernel
theorem dX8_fail_4 : decode cX8_fail 4 = .ok (.ifCond .ne 14, 3) := by decide +kernel
theorem dX8_fail_7 : decode cX8_fail 7 = .ok (.aload_n 0, 1) := by decide +kernel
theorem dX8_fail_8 : decode cX8_fail 8 = .ok (.sipush (-1000), 3) := by decide +kernel
theorem dX8_fail_11 : decode cX8_fail 11 = .ok (.iload_n 1, 1) := by decide +kernel
theorem dX8_fail_12 : decode cX8_fail 12 = .ok (.imul, 1) := by decide +kernel
theorem dX8_fail_13 : decode cX8_fail 13 = .ok (.iload_n 2, 1) := by decide +kernel
theorem dX8_fail_14 : decode cX8_fail 14 = .ok (.isub, 1) := by decide +kernel
theorem dX8_fail_15 : decode cX8_fail 15 = .ok (.putfield 23, 3) := by decide +kernel
theorem dX8_fail_18 : decode cX8_fail 18 = .ok (.return_, 1) := by decide +kernel
theorem dX8_isDigit_0 : decode cX8_isDigit 0 = .ok (.iload_n 0, 1) := by decide +kernel
theorem dX8_isDigit_1 : decode cX8_isDigit 1 = .ok (.bipush 48, 2) := by decide +kernel
theorem dX8_isDigit_3 : decode cX8_isDigit 3 = .ok (.if_icmp .lt 13, 3) := by decide +kernel
theorem dX8_isDigit_6 : decode cX8_isDigit 6 = .ok (.iload_n 0, 1) := by decide +kernel
theorem dX8_isDigit_7 : decode cX8_isDigit 7 = .ok (.bipush 57, 2) := by decide +kernel
theorem dX8_isDigit_9 : decode cX8_isDigit 9 = .ok (.if_icmp .gt 7, 3) := by decide +kernel
theorem dX8_isDigit_12 : decode cX8_isDigit 12 = .ok (.iconst 1, 1) := by decide +kernel
theorem dX8_isDigit_13 : decode cX8_isDigit 13 = .ok (.goto 4, 3) := by decide +kernel
theorem dX8_isDigit_16 : decode cX8_isDigit 16 = .ok (.iconst 0, 1) := by decide +kernel
theorem dX8_isDigit_17 : decode cX8_isDigit 17 = .ok (.ireturn, 1) := by decide +kernel
theorem dX9_init_0 : decode cX9_init 0 = .ok (.aload_n 0, 1) := by decide +kernel
theorem dX9_init_1 : decode cX9_init 1 = .ok (.invokespecial 3, 3) := by decide +kernel
theorem dX9_init_4 : decode cX9_init 4 = .ok (.aload_n 0, 1) := by decide +kernel
theorem dX9_init_5 : decode cX9_init 5 = .ok (.bipush 20, 2) := by decide +kernel
theorem dX9_init_7 : decode cX9_init 7 = .ok (.newarray .int, 2) := by decide +kernel
theorem dX9_init_9 : decode cX9_init 9 = .ok (.putfield 9, 3) := by decide +kernel
theorem dX9_init_12 : decode cX9_init 12 = .ok (.aload_n 0, 1) := by decide +kernel
theorem dX9_init_13 : decode cX9_init 13 = .ok (.bipush 20, 2) := by decide +kernel
theorem dX9_init_15 : decode cX9_init 15 = .ok (.newarray .int, 2) := by decide +kernel
theorem dX9_init_17 : decode cX9_init 17 = .ok (.putfield 15, 3) := by decide +kernel
theorem dX9_init_20 : decode cX9_init 20 = .ok (.aload_n 0, 1) := by decide +kernel
theorem dX9_init_21 : decode cX9_init 21 = .ok (.bipush 20, 2) := by decide +kernel
theorem dX9_init_23 : decode cX9_init 23 = .ok (.newarray .int, 2) := by decide +kernel
theorem dX9_init_25 : decode cX9_init 25 = .ok (.putfield 18, 3) := by decide +kernel
theorem dX9_init_28 : decode cX9_init 28 = .ok (.aload_n 0, 1) := by decide +kernel
theorem dX9_init_29 : decode cX9_init 29 = .ok (.bipush 20, 2) := by decide +kernel
theorem dX9_init_31 : decode cX9_init 31 = .ok (.newarray .int, 2) := by decide +kernel
theorem dX9_init_33 : decode cX9_init 33 = .ok (.putfield 21, 3) := by decide +kernel
theorem dX9_init_36 : decode cX9_init 36 = .ok (.return_, 1) := by decide +kernel
theorem dX9_isFull_0 : decode cX9_isFull 0 = .ok (.aload_n 0, 1) := by decide +kernel
theorem dX9_isFull_1 : decode cX9_isFull 1 = .ok (.getfield 24, 3) := by decide +kernel
theorem dX9_isFull_4 : decode cX9_isFull 4 = .ok (.bipush 20, 2) := by decide +kernel
theorem dX9_isFull_6 : decode cX9_isFull 6 = .ok (.if_icmp .lt 7, 3) := by decide +kernel
theorem dX9_isFull_9 : decode cX9_isFull 9 = .ok (.iconst 1, 1) := by decide +kernel
theorem dX9_isFull_10 : decode cX9_isFull 10 = .ok (.goto 4, 3) := by decide +kernel
theorem dX9_isFull_13 : decode cX9_isFull 13 = .ok (.iconst 0, 1) := by decide +kernel
theorem dX9_isFull_14 : decode cX9_isFull 14 = .ok (.ireturn, 1) := by decide +kernel
theorem dX9_add_0 : decode cX9_add 0 = .ok (.aload_n 0, 1) := by decide +kernel
theorem dX9_add_1 : decode cX9_add 1 = .ok (.getfield 24, 3) := by decide +kernel
theorem dX9_add_4 : decode cX9_add 4 = .ok (.ifCond .lt 10, 3) := by decide +kernel
theorem dX9_add_7 : decode cX9_add 7 = .ok (.aload_n 0, 1) := by decide +kernel
theorem dX9_add_8 : decode cX9_add 8 = .ok (.invokevirtual 28, 3) := by decide +kernel
theorem dX9_add_11 : decode cX9_add 11 = .ok (.ifCond .eq 6, 3) := by decide +kernel
theorem dX9_add_14 : decode cX9_add 14 = .ok (.bipush (-2), 2) := by decide +kernel
theorem dX9_add_16 : decode cX9_add 16 = .ok (.ireturn, 1) := by decide +kernel
theorem dX9_add_17 : decode cX9_add 17 = .ok (.aload_n 0, 1) := by decide +kernel
theorem dX9_add_18 : decode cX9_add 18 = .ok (.getfield 9, 3) := by decide +kernel
theorem dX9_add_21 : decode cX9_add 21 = .ok (.aload_n 0, 1) := by decide +kernel
theorem dX9_add_22 : decode cX9_add 22 = .ok (.getfield 24, 3) := by decide +kernel
theorem dX9_add_25 : decode cX9_add 25 = .ok (.iload_n 1, 1) := by decide +kernel
theorem dX9_add_26 : decode cX9_add 26 = .ok (.iastore, 1) := by decide +kernel
theorem dX9_add_27 : decode cX9_add 27 = .ok (.aload_n 0, 1) := by decide +kernel
theorem dX9_add_28 : decode cX9_add 28 = .ok (.getfield 15, 3) := by decide +kernel
theorem dX9_add_31 : decode cX9_add 31 = .ok (.aload_n 0, 1) := by decide +kernel
theorem dX9_add_32 : decode cX9_add 32 = .ok (.getfield 24, 3) := by decide +kernel
theorem dX9_add_35 : decode cX9_add 35 = .ok (.iload_n 2, 1) := by decide +kernel
theorem dX9_add_36 : decode cX9_add 36 = .ok (.iastore, 1) := by decide +kernel
theorem dX9_add_37 : decode cX9_add 37 = .ok (.aload_n 0, 1) := by decide +kernel
theorem dX9_add_38 : decode cX9_add 38 = .ok (.getfield 18, 3) := by decide +kernel
theorem dX9_add_41 : decode cX9_add 41 = .ok (.aload_n 0, 1) := by decide +kernel
theorem dX9_add_42 : decode cX9_add 42 = .ok (.getfield 24, 3) := by decide +kernel
theorem dX9_add_45 : decode cX9_add 45 = .ok (.iload_n 3, 1) := by decide +kernel
theorem dX9_add_46 : decode cX9_add 46 = .ok (.iastore, 1) := by decide +kernel
theorem dX9_add_47 : decode cX9_add 47 = .ok (.aload_n 0, 1) := by decide +kernel
theorem dX9_add_48 : decode cX9_add 48 = .ok (.getfield 21, 3) := by decide +kernel
theorem dX9_add_51 : decode cX9_add 51 = .ok (.aload_n 0, 1) := by decide +kernel
theorem dX9_add_52 : decode cX9_add 52 = .ok (.getfield 24, 3) := by decide +kernel
theorem dX9_add_55 : decode cX9_add 55 = .ok (.iload 4, 2) := by decide +kernel
theorem dX9_add_57 : decode cX9_add 57 = .ok (.iastore, 1) := by decide +kernel
theorem dX9_add_58 : decode cX9_add 58 = .ok (.aload_n 0, 1) := by decide +kernel
theorem dX9_add_59 : decode cX9_add 59 = .ok (.dup, 1) := by decide +kernel
theorem dX9_add_60 : decode cX9_add 60 = .ok (.getfield 24, 3) := by decide +kernel
theorem dX9_add_63 : decode cX9_add 63 = .ok (.iconst 1, 1) := by decide +kernel
theorem dX9_add_64 : decode cX9_add 64 = .ok (.iadd, 1) := by decide +kernel
theorem dX9_add_65 : decode cX9_add 65 = .ok (.putfield 24, 3) := by decide +kernel
theorem dX9_add_68 : decode cX9_add 68 = .ok (.aload_n 0, 1) := by decide +kernel
theorem dX9_add_69 : decode cX9_add 69 = .ok (.getfield 24, 3) := by decide +kernel
theorem dX9_add_72 : decode cX9_add 72 = .ok (.iconst 1, 1) := by decide +kernel
theorem dX9_add_73 : decode cX9_add 73 = .ok (.isub, 1) := by decide +kernel
theorem dX9_add_74 : decode cX9_add 74 = .ok (.ireturn, 1) := by decide +kernel
theorem dX9_sameLine_0 : decode cX9_sameLine 0 = .ok (.aload_n 0, 1) := by decide +kernel
theorem dX9_sameLine_1 : decode cX9_sameLine 1 = .ok (.iload_n 1, 1) := by decide +kernel
theorem dX9_sameLine_2 : decode cX9_sameLine 2 = .ok (.invokevirtual 32, 3) := by decide +kernel
theorem dX9_sameLine_5 : decode cX9_sameLine 5 = .ok (.ifCond .eq 30, 3) := by decide +kernel
theorem dX9_sameLine_8 : decode cX9_sameLine 8 = .ok (.aload_n 0, 1) := by decide +kernel
theorem dX9_sameLine_9 : decode cX9_sameLine 9 = .ok (.iload_n 2, 1) := by decide +kernel
theorem dX9_sameLine_10 : decode cX9_sameLine 10 = .ok (.invokevirtual 32, 3) := by decide +kernel
theorem dX9_sameLine_13 : decode cX9_sameLine 13 = .ok (.ifCond .eq 22, 3) := by decide +kernel
theorem dX9_sameLine_16 : decode cX9_sameLine 16 = .ok (.aload_n 0, 1) := by decide +kernel
theorem dX9_sameLine_17 : decode cX9_sameLine 17 = .ok (.getfield 9, 3) := by decide +kernel
theorem dX9_sameLine_20 : decode cX9_sameLine 20 = .ok (.iload_n 1, 1) := by decide +kernel
theorem dX9_sameLine_21 : decode cX9_sameLine 21 = .ok (.iaload, 1) := by decide +kernel
theorem dX9_sameLine_22 : decode cX9_sameLine 22 = .ok (.aload_n 0, 1) := by decide +kernel
theorem dX9_sameLine_23 : decode cX9_sameLine 23 = .ok (.getfield 9, 3) := by decide +kernel
theorem dX9_sameLine_26 : decode cX9_sameLine 26 = .ok (.iload_n 2, 1) := by decide +kernel
theorem dX9_sameLine_27 : decode cX9_sameLine 27 = .ok (.iaload, 1) := by decide +kernel
theorem dX9_sameLine_28 : decode cX9_sameLine 28 = .ok (.if_icmp .ne 7, 3) := by decide +kernel
theorem dX9_sameLine_31 : decode cX9_sameLine 31 = .ok (.iconst 1, 1) := by decide +kernel
theorem dX9_sameLine_32 : decode cX9_sameLine 32 = .ok (.goto 4, 3) := by decide +kernel
theorem dX9_sameLine_35 : decode cX9_sameLine 35 = .ok (.iconst 0, 1) := by decide +kernel
theorem dX9_sameLine_36 : decode cX9_sameLine 36 = .ok (.ireturn, 1) := by decide +kernel
theorem dX9_has_0 : decode cX9_has 0 = .ok (.iload_n 1, 1) := by decide +kernel
theorem dX9_has_1 : decode cX9_has 1 = .ok (.ifCond .lt 21, 3) := by decide +kernel
theorem dX9_has_4 : decode cX9_has 4 = .ok (.iload_n 1, 1) := by decide +kernel
theorem dX9_has_5 : decode cX9_has 5 = .ok (.aload_n 0, 1) := by decide +kernel
theorem dX9_has_6 : decode cX9_has 6 = .ok (.getfield 24, 3) := by decide +kernel
theorem dX9_has_9 : decode cX9_has 9 = .ok (.if_icmp .ge 13, 3) := by decide +kernel
theorem dX9_has_12 : decode cX9_has 12 = .ok (.iload_n 1, 1) := by decide +kernel
theorem dX9_has_13 : decode cX9_has 13 = .ok (.bipush 20, 2) := by decide +kernel
theorem dX9_has_15 : decode cX9_has 15 = .ok (.if_icmp .ge 7, 3) := by decide +kernel
theorem dX9_has_18 : decode cX9_has 18 = .ok (.iconst 1, 1) := by decide +kernel
theorem dX9_has_19 : decode cX9_has 19 = .ok (.goto 4, 3) := by decide +kernel
theorem dX9_has_22 : decode cX9_has 22 = .ok (.iconst 0, 1) := by decide +kernel
theorem dX9_has_23 : decode cX9_has 23 = .ok (.ireturn, 1) := by decide +kernel
theorem dX9_writeTo_0 : decode cX9_writeTo 0 = .ok (.aload_n 1, 1) := by decide +kernel
theorem dX9_writeTo_1 : decode cX9_writeTo 1 = .ok (.iconst 0, 1) := by decide +kernel
theorem dX9_writeTo_2 : decode cX9_writeTo 2 = .ok (.putfield 36, 3) := by decide +kernel
theorem dX9_writeTo_5 : decode cX9_writeTo 5 = .ok (.iconst 0, 1) := by decide +kernel
theorem dX9_writeTo_6 : decode cX9_writeTo 6 = .ok (.istore_n 2, 1) := by decide +kernel
theorem dX9_writeTo_7 : decode cX9_writeTo 7 = .ok (.iload_n 2, 1) := by decide +kernel
theorem dX9_writeTo_8 : decode cX9_writeTo 8 = .ok (.aload_n 0, 1) := by decide +kernel
theorem dX9_writeTo_9 : decode cX9_writeTo 9 = .ok (.getfield 24, 3) := by decide +kernel
theorem dX9_writeTo_12 : decode cX9_writeTo 12 = .ok (.if_icmp .ge 90, 3) := by decide +kernel
theorem dX9_writeTo_15 : decode cX9_writeTo 15 = .ok (.iload_n 2, 1) := by decide +kernel
theorem dX9_writeTo_16 : decode cX9_writeTo 16 = .ok (.bipush 20, 2) := by decide +kernel
theorem dX9_writeTo_18 : decode cX9_writeTo 18 = .ok (.if_icmp .ge 84, 3) := by decide +kernel
theorem dX9_writeTo_21 : decode cX9_writeTo 21 = .ok (.iload_n 2, 1) := by decide +kernel
theorem dX9_writeTo_22 : decode cX9_writeTo 22 = .ok (.ifCond .le 9, 3) := by decide +kernel
theorem dX9_writeTo_25 : decode cX9_writeTo 25 = .ok (.aload_n 1, 1) := by decide +kernel
theorem dX9_writeTo_26 : decode cX9_writeTo 26 = .ok (.bipush 59, 2) := by decide +kernel
theorem dX9_writeTo_28 : decode cX9_writeTo 28 = .ok (.invokevirtual 39, 3) := by decide +kernel
theorem dX9_writeTo_31 : decode cX9_writeTo 31 = .ok (.aload_n 1, 1) := by decide +kernel
theorem dX9_writeTo_32 : decode cX9_writeTo 32 = .ok (.bipush 97, 2) := by decide +kernel
theorem dX9_writeTo_34 : decode cX9_writeTo 34 = .ok (.aload_n 0, 1) := by decide +kernel
theorem dX9_writeTo_35 : decode cX9_writeTo 35 = .ok (.getfield 9, 3) := by decide +kernel
theorem dX9_writeTo_38 : decode cX9_writeTo 38 = .ok (.iload_n 2, 1) := by decide +kernel
theorem dX9_writeTo_39 : decode cX9_writeTo 39 = .ok (.iaload, 1) := by decide +kernel
theorem dX9_writeTo_40 : decode cX9_writeTo 40 = .ok (.iadd, 1) := by decide +kernel
theorem dX9_writeTo_41 : decode cX9_writeTo 41 = .ok (.invokevirtual 39, 3) := by decide +kernel
theorem dX9_writeTo_44 : decode cX9_writeTo 44 = .ok (.aload_n 1, 1) := by decide +kernel
theorem dX9_writeTo_45 : decode cX9_writeTo 45 = .ok (.aload_n 0, 1) := by decide +kernel
theorem dX9_writeTo_46 : decode cX9_writeTo 46 = .ok (.getfield 15, 3) := by decide +kernel
theorem dX9_writeTo_49 : decode cX9_writeTo 49 = .ok (.iload_n 2, 1) := by decide +kernel
theorem dX9_writeTo_50 : decode cX9_writeTo 50 = .ok (.iaload, 1) := by decide +kernel
theorem dX9_writeTo_51 : decode cX9_writeTo 51 = .ok (.invokevirtual 43, 3) := by decide +kernel
theorem dX9_writeTo_54 : decode cX9_writeTo 54 = .ok (.aload_n 1, 1) := by decide +kernel
theorem dX9_writeTo_55 : decode cX9_writeTo 55 = .ok (.bipush 47, 2) := by decide +kernel
theorem dX9_writeTo_57 : decode cX9_writeTo 57 = .ok (.invokevirtual 39, 3) := by decide +kernel
theorem dX9_writeTo_60 : decode cX9_writeTo 60 = .ok (.aload_n 1, 1) := by decide +kernel
theorem dX9_writeTo_61 : decode cX9_writeTo 61 = .ok (.aload_n 0, 1) := by decide +kernel
theorem dX9_writeTo_62 : decode cX9_writeTo 62 = .ok (.getfield 18, 3) := by decide +kernel
theorem dX9_writeTo_65 : decode cX9_writeTo 65 = .ok (.iload_n 2, 1) := by decide +kernel
theorem dX9_writeTo_66 : decode cX9_writeTo 66 = .ok (.iaload, 1) := by decide +kernel
theorem dX9_writeTo_67 : decode cX9_writeTo 67 = .ok (.invokevirtual 43, 3) := by decide +kernel
theorem dX9_writeTo_70 : decode cX9_writeTo 70 = .ok (.aload_n 0, 1) := by decide +kernel
theorem dX9_writeTo_71 : decode cX9_writeTo 71 = .ok (.getfield 21, 3) := by decide +kernel
theorem dX9_writeTo_74 : decode cX9_writeTo 74 = .ok (.iload_n 2, 1) := by decide +kernel
theorem dX9_writeTo_75 : decode cX9_writeTo 75 = .ok (.iaload, 1) := by decide +kernel
theorem dX9_writeTo_76 : decode cX9_writeTo 76 = .ok (.iconst 1, 1) := by decide +kernel
theorem dX9_writeTo_77 : decode cX9_writeTo 77 = .ok (.if_icmp .le 19, 3) := by decide +kernel
theorem dX9_writeTo_80 : decode cX9_writeTo 80 = .ok (.aload_n 1, 1) := by decide +kernel
theorem dX9_writeTo_81 : decode cX9_writeTo 81 = .ok (.bipush 42, 2) := by decide +kernel
theorem dX9_writeTo_83 : decode cX9_writeTo 83 = .ok (.invokevirtual 39, 3) := by decide +kernel
theorem dX9_writeTo_86 : decode cX9_writeTo 86 = .ok (.aload_n 1, 1) := by decide +kernel
theorem dX9_writeTo_87 : decode cX9_writeTo 87 = .ok (.aload_n 0, 1) := by decide +kernel
theorem dX9_writeTo_88 : decode cX9_writeTo 88 = .ok (.getfield 21, 3) := by decide +kernel
theorem dX9_writeTo_91 : decode cX9_writeTo 91 = .ok (.iload_n 2, 1) := by decide +kernel
theorem dX9_writeTo_92 : decode cX9_writeTo 92 = .ok (.iaload, 1) := by decide +kernel
theorem dX9_writeTo_93 : decode cX9_writeTo 93 = .ok (.invokevirtual 43, 3) := by decide +kernel
theorem dX9_writeTo_96 : decode cX9_writeTo 96 = .ok (.iinc 2 1, 3) := by decide +kernel
theorem dX9_writeTo_99 : decode cX9_writeTo 99 = .ok (.goto (-92), 3) := by decide +kernel
theorem dX9_writeTo_102 : decode cX9_writeTo 102 = .ok (.return_, 1) := by decide +kernel
theorem dX9_copyFrom_0 : decode cX9_copyFrom 0 = .ok (.aload_n 1, 1) := by decide +kernel
theorem dX9_copyFrom_1 : decode cX9_copyFrom 1 = .ok (.getfield 9, 3) := by decide +kernel
theorem dX9_copyFrom_4 : decode cX9_copyFrom 4 = .ok (.iconst 0, 1) := by decide +kernel
theorem dX9_copyFrom_5 : decode cX9_copyFrom 5 = .ok (.aload_n 0, 1) := by decide +kernel
theorem dX9_copyFrom_6 : decode cX9_copyFrom 6 = .ok (.getfield 9, 3) := by decide +kernel
theorem dX9_copyFrom_9 : decode cX9_copyFrom 9 = .ok (.iconst 0, 1) := by decide +kernel
theorem dX9_copyFrom_10 : decode cX9_copyFrom 10 = .ok (.bipush 20, 2) := by decide +kernel
theorem dX9_copyFrom_12 : decode cX9_copyFrom 12 = .ok (.invokestatic 46, 3) := by decide +kernel
theorem dX9_copyFrom_15 : decode cX9_copyFrom 15 = .ok (.aload_n 1, 1) := by decide +kernel
theorem dX9_copyFrom_16 : decode cX9_copyFrom 16 = .ok (.getfield 15, 3) := by decide +kernel
theorem dX9_copyFrom_19 : decode cX9_copyFrom 19 = .ok (.iconst 0, 1) := by decide +kernel
theorem dX9_copyFrom_20 : decode cX9_copyFrom 20 = .ok (.aload_n 0, 1) := by decide +kernel
theorem dX9_copyFrom_21 : decode cX9_copyFrom 21 = .ok (.getfield 15, 3) := by decide +kernel
theorem dX9_copyFrom_24 : decode cX9_copyFrom 24 = .ok (.iconst 0, 1) := by decide +kernel
theorem dX9_copyFrom_25 : decode cX9_copyFrom 25 = .ok (.bipush 20, 2) := by decide +kernel
theorem dX9_copyFrom_27 : decode cX9_copyFrom 27 = .ok (.invokestatic 46, 3) := by decide +kernel
theorem dX9_copyFrom_30 : decode cX9_copyFrom 30 = .ok (.aload_n 1, 1) := by decide +kernel
theorem dX9_copyFrom_31 : decode cX9_copyFrom 31 = .ok (.getfield 18, 3) := by decide +kernel
theorem dX9_copyFrom_34 : decode cX9_copyFrom 34 = .ok (.iconst 0, 1) := by decide +kernel
theorem dX9_copyFrom_35 : decode cX9_copyFrom 35 = .ok (.aload_n 0, 1) := by decide +kernel
theorem dX9_copyFrom_36 : decode cX9_copyFrom 36 = .ok (.getfield 18, 3) := by decide +kernel
theorem dX9_copyFrom_39 : decode cX9_copyFrom 39 = .ok (.iconst 0, 1) := by decide +kernel
theorem dX9_copyFrom_40 : decode cX9_copyFrom 40 = .ok (.bipush 20, 2) := by decide +kernel
theorem dX9_copyFrom_42 : decode cX9_copyFrom 42 = .ok (.invokestatic 46, 3) := by decide +kernel
theorem dX9_copyFrom_45 : decode cX9_copyFrom 45 = .ok (.aload_n 1, 1) := by decide +kernel
theorem dX9_copyFrom_46 : decode cX9_copyFrom 46 = .ok (.getfield 21, 3) := by decide +kernel
theorem dX9_copyFrom_49 : decode cX9_copyFrom 49 = .ok (.iconst 0, 1) := by decide +kernel
theorem dX9_copyFrom_50 : decode cX9_copyFrom 50 = .ok (.aload_n 0, 1) := by decide +kernel
theorem dX9_copyFrom_51 : decode cX9_copyFrom 51 = .ok (.getfield 21, 3) := by decide +kernel
theorem dX9_copyFrom_54 : decode cX9_copyFrom 54 = .ok (.iconst 0, 1) := by decide +kernel
theorem dX9_copyFrom_55 : decode cX9_copyFrom 55 = .ok (.bipush 20, 2) := by decide +kernel
theorem dX9_copyFrom_57 : decode cX9_copyFrom 57 = .ok (.invokestatic 46, 3) := by decide +kernel
theorem dX9_copyFrom_60 : decode cX9_copyFrom 60 = .ok (.aload_n 0, 1) := by decide +kernel
theorem dX9_copyFrom_61 : decode cX9_copyFrom 61 = .ok (.aload_n 1, 1) := by decide +kernel
theorem dX9_copyFrom_62 : decode cX9_copyFrom 62 = .ok (.getfield 24, 3) := by decide +kernel
theorem dX9_copyFrom_65 : decode cX9_copyFrom 65 = .ok (.putfield 24, 3) := by decide +kernel
theorem dX9_copyFrom_68 : decode cX9_copyFrom 68 = .ok (.return_, 1) := by decide +kernel
theorem dX10_init_0 : decode cX10_init 0 = .ok (.aload_n 0, 1) := by decide +kernel
theorem dX10_init_1 : decode cX10_init 1 = .ok (.invokespecial 3, 3) := by decide +kernel
theorem dX10_init_4 : decode cX10_init 4 = .ok (.aload_n 0, 1) := by decide +kernel
theorem dX10_init_5 : decode cX10_init 5 = .ok (.bipush 20, 2) := by decide +kernel
theorem dX10_init_7 : decode cX10_init 7 = .ok (.newarray .int, 2) := by decide +kernel
theorem dX10_init_9 : decode cX10_init 9 = .ok (.putfield 9, 3) := by decide +kernel
theorem dX10_init_12 : decode cX10_init 12 = .ok (.aload_n 0, 1) := by decide +kernel
theorem dX10_init_13 : decode cX10_init 13 = .ok (.bipush 20, 2) := by decide +kernel
theorem dX10_init_15 : decode cX10_init 15 = .ok (.newarray .int, 2) := by decide +kernel
theorem dX10_init_17 : decode cX10_init 17 = .ok (.putfield 15, 3) := by decide +kernel
theorem dX10_init_20 : decode cX10_init 20 = .ok (.return_, 1) := by decide +kernel
theorem dX10_minuteOf_0 : decode cX10_minuteOf 0 = .ok (.aload_n 0, 1) := by decide +kernel
theorem dX10_minuteOf_1 : decode cX10_minuteOf 1 = .ok (.iload_n 1, 1) := by decide +kernel
theorem dX10_minuteOf_2 : decode cX10_minuteOf 2 = .ok (.invokevirtual 18, 3) := by decide +kernel
theorem dX10_minuteOf_5 : decode cX10_minuteOf 5 = .ok (.ifCond .eq 12, 3) := by decide +kernel
theorem dX10_minuteOf_8 : decode cX10_minuteOf 8 = .ok (.aload_n 0, 1) := by decide +kernel
theorem dX10_minuteOf_9 : decode cX10_minuteOf 9 = .ok (.getfield 9, 3) := by decide +kernel
theorem dX10_minuteOf_12 : decode cX10_minuteOf 12 = .ok (.iload_n 1, 1) := by decide +kernel
theorem dX10_minuteOf_13 : decode cX10_minuteOf 13 = .ok (.iaload, 1) := by decide +kernel
theorem dX10_minuteOf_14 : decode cX10_minuteOf 14 = .ok (.goto 4, 3) := by decide +kernel
theorem dX10_minuteOf_17 : decode cX10_minuteOf 17 = .ok (.iconst (-1), 1) := by decide +kernel
theorem dX10_minuteOf_18 : decode cX10_minuteOf 18 = .ok (.ireturn, 1) := by decide +kernel
theorem dX10_keeperOf_0 : decode cX10_keeperOf 0 = .ok (.aload_n 0, 1) := by decide +kernel
theorem dX10_keeperOf_1 : decode cX10_keeperOf 1 = .ok (.iload_n 1, 1) := by decide +kernel
theorem dX10_keeperOf_2 : decode cX10_keeperOf 2 = .ok (.invokevirtual 18, 3) := by decide +kernel
theorem dX10_keeperOf_5 : decode cX10_keeperOf 5 = .ok (.ifCond .eq 12, 3) := by decide +kernel
theorem dX10_keeperOf_8 : decode cX10_keeperOf 8 = .ok (.aload_n 0, 1) := by decide +kernel
theorem dX10_keeperOf_9 : decode cX10_keeperOf 9 = .ok (.getfield 15, 3) := by decide +kernel
theorem dX10_keeperOf_12 : decode cX10_keeperOf 12 = .ok (.iload_n 1, 1) := by decide +kernel
theorem dX10_keeperOf_13 : decode cX10_keeperOf 13 = .ok (.iaload, 1) := by decide +kernel
theorem dX10_keeperOf_14 : decode cX10_keeperOf 14 = .ok (.goto 4, 3) := by decide +kernel
theorem dX10_keeperOf_17 : decode cX10_keeperOf 17 = .ok (.iconst (-1), 1) := by decide +kernel
theorem dX10_keeperOf_18 : decode cX10_keeperOf 18 = .ok (.ireturn, 1) := by decide +kernel
theorem dX10_find_0 : decode cX10_find 0 = .ok (.iconst 0, 1) := by decide +kernel
theorem dX10_find_1 : decode cX10_find 1 = .ok (.istore_n 2, 1) := by decide +kernel
theorem dX10_find_2 : decode cX10_find 2 = .ok (.iload_n 2, 1) := by decide +kernel
theorem dX10_find_3 : decode cX10_find 3 = .ok (.aload_n 0, 1) := by decide +kernel
theorem dX10_find_4 : decode cX10_find 4 = .ok (.getfield 22, 3) := by decide +kernel
theorem dX10_find_7 : decode cX10_find 7 = .ok (.if_icmp .ge 27, 3) := by decide +kernel
theorem dX10_find_10 : decode cX10_find 10 = .ok (.iload_n 2, 1) := by decide +kernel
theorem dX10_find_11 : decode cX10_find 11 = .ok (.bipush 20, 2) := by decide +kernel
theorem dX10_find_13 : decode cX10_find 13 = .ok (.if_icmp .ge 21, 3) := by decide +kernel
theorem dX10_find_16 : decode cX10_find 16 = .ok (.aload_n 0, 1) := by decide +kernel
theorem dX10_find_17 : decode cX10_find 17 = .ok (.getfield 9, 3) := by decide +kernel
theorem dX10_find_20 : decode cX10_find 20 = .ok (.iload_n 2, 1) := by decide +kernel
theorem dX10_find_21 : decode cX10_find 21 = .ok (.iaload, 1) := by decide +kernel
theorem dX10_find_22 : decode cX10_find 22 = .ok (.iload_n 1, 1) := by decide +kernel
theorem dX10_find_23 : decode cX10_find 23 = .ok (.if_icmp .ne 5, 3) := by decide +kernel
theorem dX10_find_26 : decode cX10_find 26 = .ok (.iload_n 2, 1) := by decide +kernel
theorem dX10_find_27 : decode cX10_find 27 = .ok (.ireturn, 1) := by decide +kernel
theorem dX10_find_28 : decode cX10_find 28 = .ok (.iinc 2 1, 3) := by decide +kernel
theorem dX10_find_31 : decode cX10_find 31 = .ok (.goto (-29), 3) := by decide +kernel
theorem dX10_find_34 : decode cX10_find 34 = .ok (.iconst (-1), 1) := by decide +kernel
theorem dX10_find_35 : decode cX10_find 35 = .ok (.ireturn, 1) := by decide +kernel
theorem dX10_keptBy_0 : decode cX10_keptBy 0 = .ok (.iconst 0, 1) := by decide +kernel
theorem dX10_keptBy_1 : decode cX10_keptBy 1 = .ok (.istore_n 2, 1) := by decide +kernel
theorem dX10_keptBy_2 : decode cX10_keptBy 2 = .ok (.iconst 0, 1) := by decide +kernel
theorem dX10_keptBy_3 : decode cX10_keptBy 3 = .ok (.istore_n 3, 1) := by decide +kernel
theorem dX10_keptBy_4 : decode cX10_keptBy 4 = .ok (.iload_n 3, 1) := by decide +kernel
theorem dX10_keptBy_5 : decode cX10_keptBy 5 = .ok (.aload_n 0, 1) := by decide +kernel
theorem dX10_keptBy_6 : decode cX10_keptBy 6 = .ok (.getfield 22, 3) := by decide +kernel
theorem dX10_keptBy_9 : decode cX10_keptBy 9 = .ok (.if_icmp .ge 28, 3) := by decide +kernel
theorem dX10_keptBy_12 : decode cX10_keptBy 12 = .ok (.iload_n 3, 1) := by decide +kernel
theorem dX10_keptBy_13 : decode cX10_keptBy 13 = .ok (.bipush 20, 2) := by decide +kernel
theorem dX10_keptBy_15 : decode cX10_keptBy 15 = .ok (.if_icmp .ge 22, 3) := by decide +kernel
theorem dX10_keptBy_18 : decode cX10_keptBy 18 = .ok (.aload_n 0, 1) := by decide +kernel
theorem dX10_keptBy_19 : decode cX10_keptBy 19 = .ok (.getfield 15, 3) := by decide +kernel
theorem dX10_keptBy_22 : decode cX10_keptBy 22 = .ok (.iload_n 3, 1) := by decide +kernel
theorem dX10_keptBy_23 : decode cX10_keptBy 23 = .ok (.iaload, 1) := by decide +kernel
theorem dX10_keptBy_24 : decode cX10_keptBy 24 = .ok (.iload_n 1, 1) := by decide +kernel
theorem dX10_keptBy_25 : decode cX10_keptBy 25 = .ok (.if_icmp .ne 6, 3) := by decide +kernel
theorem dX10_keptBy_28 : decode cX10_keptBy 28 = .ok (.iinc 2 1, 3) := by decide +kernel
theorem dX10_keptBy_31 : decode cX10_keptBy 31 = .ok (.iinc 3 1, 3) := by decide +kernel
theorem dX10_keptBy_34 : decode cX10_keptBy 34 = .ok (.goto (-30), 3) := by decide +kernel
theorem dX10_keptBy_37 : decode cX10_keptBy 37 = .ok (.iload_n 2, 1) := by decide +kernel
theorem dX10_keptBy_38 : decode cX10_keptBy 38 = .ok (.ireturn, 1) := by decide +kernel
theorem dX10_add_0 : decode cX10_add 0 = .ok (.aload_n 0, 1) := by decide +kernel
theorem dX10_add_1 : decode cX10_add 1 = .ok (.getfield 22, 3) := by decide +kernel
theorem dX10_add_4 : decode cX10_add 4 = .ok (.ifCond .lt 12, 3) := by decide +kernel
theorem dX10_add_7 : decode cX10_add 7 = .ok (.aload_n 0, 1) := by decide +kernel
theorem dX10_add_8 : decode cX10_add 8 = .ok (.getfield 22, 3) := by decide +kernel
theorem dX10_add_11 : decode cX10_add 11 = .ok (.bipush 20, 2) := by decide +kernel
theorem dX10_add_13 : decode cX10_add 13 = .ok (.if_icmp .lt 4, 3) := by decide +kernel
theorem dX10_add_16 : decode cX10_add 16 = .ok (.return_, 1) := by decide +kernel
theorem dX10_add_17 : decode cX10_add 17 = .ok (.aload_n 0, 1) := by decide +kernel
theorem dX10_add_18 : decode cX10_add 18 = .ok (.getfield 22, 3) := by decide +kernel
theorem dX10_add_21 : decode cX10_add 21 = .ok (.istore_n 3, 1) := by decide +kernel
theorem dX10_add_22 : decode cX10_add 22 = .ok (.iload_n 3, 1) := by decide +kernel
theorem dX10_add_23 : decode cX10_add 23 = .ok (.ifCond .le 49, 3) := by decide +kernel
theorem dX10_add_26 : decode cX10_add 26 = .ok (.aload_n 0, 1) := by decide +kernel
theorem dX10_add_27 : decode cX10_add 27 = .ok (.getfield 9, 3) := by decide +kernel
theorem dX10_add_30 : decode cX10_add 30 = .ok (.iload_n 3, 1) := by decide +kernel
theorem dX10_add_31 : decode cX10_add 31 = .ok (.iconst 1, 1) := by decide +kernel
theorem dX10_add_32 : decode cX10_add 32 = .ok (.isub, 1) := by decide +kernel
theorem dX10_add_33 : decode cX10_add 33 = .ok (.iaload, 1) := by decide +kernel
theorem dX10_add_34 : decode cX10_add 34 = .ok (.iload_n 1, 1) := by decide +kernel
theorem dX10_add_35 : decode cX10_add 35 = .ok (.if_icmp .le 37, 3) := by decide +kernel
theorem dX10_add_38 : decode cX10_add 38 = .ok (.aload_n 0, 1) := by decide +kernel
theorem dX10_add_39 : decode cX10_add 39 = .ok (.getfield 9, 3) := by decide +kernel
theorem dX10_add_42 : decode cX10_add 42 = .ok (.iload_n 3, 1) := by decide +kernel
theorem dX10_add_43 : decode cX10_add 43 = .ok (.aload_n 0, 1) := by decide +kernel
theorem dX10_add_44 : decode cX10_add 44 = .ok (.getfield 9, 3) := by decide +kernel
theorem dX10_add_47 : decode cX10_add 47 = .ok (.iload_n 3, 1) := by decide +kernel
theorem dX10_add_48 : decode cX10_add 48 = .ok (.iconst 1, 1) := by decide +kernel
theorem dX10_add_49 : decode cX10_add 49 = .ok (.isub, 1) := by decide +kernel
theorem dX10_add_50 : decode cX10_add 50 = .ok (.iaload, 1) := by decide +kernel
theorem dX10_add_51 : decode cX10_add 51 = .ok (.iastore, 1) := by decide +kernel
theorem dX10_add_52 : decode cX10_add 52 = .ok (.aload_n 0, 1) := by decide +kernel
theorem dX10_add_53 : decode cX10_add 53 = .ok (.getfield 15, 3) := by decide +kernel
theorem dX10_add_56 : decode cX10_add 56 = .ok (.iload_n 3, 1) := by decide +kernel
theorem dX10_add_57 : decode cX10_add 57 = .ok (.aload_n 0, 1) := by decide +kernel
theorem dX10_add_58 : decode cX10_add 58 = .ok (.getfield 15, 3) := by decide +kernel
theorem dX10_add_61 : decode cX10_add 61 = .ok (.iload_n 3, 1) := by decide +kernel
theorem dX10_add_62 : decode cX10_add 62 = .ok (.iconst 1, 1) := by decide +kernel
theorem dX10_add_63 : decode cX10_add 63 = .ok (.isub, 1) := by decide +kernel
theorem dX10_add_64 : decode cX10_add 64 = .ok (.iaload, 1) := by decide +kernel
theorem dX10_add_65 : decode cX10_add 65 = .ok (.iastore, 1) := by decide +kernel
theorem dX10_add_66 : decode cX10_add 66 = .ok (.iinc 3 (-1), 3) := by decide +kernel
theorem dX10_add_69 : decode cX10_add 69 = .ok (.goto (-47), 3) := by decide +kernel
theorem dX10_add_72 : decode cX10_add 72 = .ok (.aload_n 0, 1) := by decide +kernel
theorem dX10_add_73 : decode cX10_add 73 = .ok (.getfield 9, 3) := by decide +kernel
theorem dX10_add_76 : decode cX10_add 76 = .ok (.iload_n 3, 1) := by decide +kernel
theorem dX10_add_77 : decode cX10_add 77 = .ok (.iload_n 1, 1) := by decide +kernel
theorem dX10_add_78 : decode cX10_add 78 = .ok (.iastore, 1) := by decide +kernel
theorem dX10_add_79 : decode cX10_add 79 = .ok (.aload_n 0, 1) := by decide +kernel
theorem dX10_add_80 : decode cX10_add 80 = .ok (.getfield 15, 3) := by decide +kernel
theorem dX10_add_83 : decode cX10_add 83 = .ok (.iload_n 3, 1) := by decide +kernel
theorem dX10_add_84 : decode cX10_add 84 = .ok (.iload_n 2, 1) := by decide +kernel
theorem dX10_add_85 : decode cX10_add 85 = .ok (.iastore, 1) := by decide +kernel
theorem dX10_add_86 : decode cX10_add 86 = .ok (.aload_n 0, 1) := by decide +kernel
theorem dX10_add_87 : decode cX10_add 87 = .ok (.dup, 1) := by decide +kernel
theorem dX10_add_88 : decode cX10_add 88 = .ok (.getfield 22, 3) := by decide +kernel
theorem dX10_add_91 : decode cX10_add 91 = .ok (.iconst 1, 1) := by decide +kernel
theorem dX10_add_92 : decode cX10_add 92 = .ok (.iadd, 1) := by decide +kernel
theorem dX10_add_93 : decode cX10_add 93 = .ok (.putfield 22, 3) := by decide +kernel
theorem dX10_add_96 : decode cX10_add 96 = .ok (.return_, 1) := by decide +kernel
theorem dX10_removeAt_0 : decode cX10_removeAt 0 = .ok (.aload_n 0, 1) := by decide +kernel
theorem dX10_removeAt_1 : decode cX10_removeAt 1 = .ok (.iload_n 1, 1) := by decide +kernel
theorem dX10_removeAt_2 : decode cX10_removeAt 2 = .ok (.invokevirtual 18, 3) := by decide +kernel
theorem dX10_removeAt_5 : decode cX10_removeAt 5 = .ok (.ifCond .ne 4, 3) := by decide +kernel
theorem dX10_removeAt_8 : decode cX10_removeAt 8 = .ok (.return_, 1) := by decide +kernel
theorem dX10_removeAt_9 : decode cX10_removeAt 9 = .ok (.iload_n 1, 1) := by decide +kernel
theorem dX10_removeAt_10 : decode cX10_removeAt 10 = .ok (.istore_n 2, 1) := by decide +kernel
theorem dX10_removeAt_11 : decode cX10_removeAt 11 = .ok (.iload_n 2, 1) := by decide +kernel
theorem dX10_removeAt_12 : decode cX10_removeAt 12 = .ok (.iconst 1, 1) := by decide +kernel
theorem dX10_removeAt_13 : decode cX10_removeAt 13 = .ok (.iadd, 1) := by decide +kernel
theorem dX10_removeAt_14 : decode cX10_removeAt 14 = .ok (.aload_n 0, 1) := by decide +kernel
theorem dX10_removeAt_15 : decode cX10_removeAt 15 = .ok (.getfield 22, 3) := by decide +kernel
theorem dX10_removeAt_18 : decode cX10_removeAt 18 = .ok (.if_icmp .ge 45, 3) := by decide +kernel
theorem dX10_removeAt_21 : decode cX10_removeAt 21 = .ok (.iload_n 2, 1) := by decide +kernel
theorem dX10_removeAt_22 : decode cX10_removeAt 22 = .ok (.iconst 1, 1) := by decide +kernel
theorem dX10_removeAt_23 : decode cX10_removeAt 23 = .ok (.iadd, 1) := by decide +kernel
theorem dX10_removeAt_24 : decode cX10_removeAt 24 = .ok (.bipush 20, 2) := by decide +kernel
theorem dX10_removeAt_26 : decode cX10_removeAt 26 = .ok (.if_icmp .ge 37, 3) := by decide +kernel
theorem dX10_removeAt_29 : decode cX10_removeAt 29 = .ok (.aload_n 0, 1) := by decide +kernel
theorem dX10_removeAt_30 : decode cX10_removeAt 30 = .ok (.getfield 9, 3) := by decide +kernel
theorem dX10_removeAt_33 : decode cX10_removeAt 33 = .ok (.iload_n 2, 1) := by decide +kernel
theorem dX10_removeAt_34 : decode cX10_removeAt 34 = .ok (.aload_n 0, 1) := by decide +kernel
theorem dX10_removeAt_35 : decode cX10_removeAt 35 = .ok (.getfield 9, 3) := by decide +kernel
theorem dX10_removeAt_38 : decode cX10_removeAt 38 = .ok (.iload_n 2, 1) := by decide +kernel
theorem dX10_removeAt_39 : decode cX10_removeAt 39 = .ok (.iconst 1, 1) := by decide +kernel
theorem dX10_removeAt_40 : decode cX10_removeAt 40 = .ok (.iadd, 1) := by decide +kernel
theorem dX10_removeAt_41 : decode cX10_removeAt 41 = .ok (.iaload, 1) := by decide +kernel
theorem dX10_removeAt_42 : decode cX10_removeAt 42 = .ok (.iastore, 1) := by decide +kernel
theorem dX10_removeAt_43 : decode cX10_removeAt 43 = .ok (.aload_n 0, 1) := by decide +kernel
theorem dX10_removeAt_44 : decode cX10_removeAt 44 = .ok (.getfield 15, 3) := by decide +kernel
theorem dX10_removeAt_47 : decode cX10_removeAt 47 = .ok (.iload_n 2, 1) := by decide +kernel
theorem dX10_removeAt_48 : decode cX10_removeAt 48 = .ok (.aload_n 0, 1) := by decide +kernel
theorem dX10_removeAt_49 : decode cX10_removeAt 49 = .ok (.getfield 15, 3) := by decide +kernel
theorem dX10_removeAt_52 : decode cX10_removeAt 52 = .ok (.iload_n 2, 1) := by decide +kernel
theorem dX10_removeAt_53 : decode cX10_removeAt 53 = .ok (.iconst 1, 1) := by decide +kernel
theorem dX10_removeAt_54 : decode cX10_removeAt 54 = .ok (.iadd, 1) := by decide +kernel
theorem dX10_removeAt_55 : decode cX10_removeAt 55 = .ok (.iaload, 1) := by decide +kernel
theorem dX10_removeAt_56 : decode cX10_removeAt 56 = .ok (.iastore, 1) := by decide +kernel
theorem dX10_removeAt_57 : decode cX10_removeAt 57 = .ok (.iinc 2 1, 3) := by decide +kernel
theorem dX10_removeAt_60 : decode cX10_removeAt 60 = .ok (.goto (-49), 3) := by decide +kernel
theorem dX10_removeAt_63 : decode cX10_removeAt 63 = .ok (.aload_n 0, 1) := by decide +kernel
theorem dX10_removeAt_64 : decode cX10_removeAt 64 = .ok (.dup, 1) := by decide +kernel
theorem dX10_removeAt_65 : decode cX10_removeAt 65 = .ok (.getfield 22, 3) := by decide +kernel
theorem dX10_removeAt_68 : decode cX10_removeAt 68 = .ok (.iconst 1, 1) := by decide +kernel
theorem dX10_removeAt_69 : decode cX10_removeAt 69 = .ok (.isub, 1) := by decide +kernel
theorem dX10_removeAt_70 : decode cX10_removeAt 70 = .ok (.putfield 22, 3) := by decide +kernel
theorem dX10_removeAt_73 : decode cX10_removeAt 73 = .ok (.return_, 1) := by decide +kernel
theorem dX10_copyFrom_0 : decode cX10_copyFrom 0 = .ok (.aload_n 1, 1) := by decide +kernel
theorem dX10_copyFrom_1 : decode cX10_copyFrom 1 = .ok (.getfield 9, 3) := by decide +kernel
theorem dX10_copyFrom_4 : decode cX10_copyFrom 4 = .ok (.iconst 0, 1) := by decide +kernel
theorem dX10_copyFrom_5 : decode cX10_copyFrom 5 = .ok (.aload_n 0, 1) := by decide +kernel
theorem dX10_copyFrom_6 : decode cX10_copyFrom 6 = .ok (.getfield 9, 3) := by decide +kernel
theorem dX10_copyFrom_9 : decode cX10_copyFrom 9 = .ok (.iconst 0, 1) := by decide +kernel
theorem dX10_copyFrom_10 : decode cX10_copyFrom 10 = .ok (.bipush 20, 2) := by decide +kernel
theorem dX10_copyFrom_12 : decode cX10_copyFrom 12 = .ok (.invokestatic 26, 3) := by decide +kernel
theorem dX10_copyFrom_15 : decode cX10_copyFrom 15 = .ok (.aload_n 1, 1) := by decide +kernel
theorem dX10_copyFrom_16 : decode cX10_copyFrom 16 = .ok (.getfield 15, 3) := by decide +kernel
theorem dX10_copyFrom_19 : decode cX10_copyFrom 19 = .ok (.iconst 0, 1) := by decide +kernel
theorem dX10_copyFrom_20 : decode cX10_copyFrom 20 = .ok (.aload_n 0, 1) := by decide +kernel
theorem dX10_copyFrom_21 : decode cX10_copyFrom 21 = .ok (.getfield 15, 3) := by decide +kernel
theorem dX10_copyFrom_24 : decode cX10_copyFrom 24 = .ok (.iconst 0, 1) := by decide +kernel
theorem dX10_copyFrom_25 : decode cX10_copyFrom 25 = .ok (.bipush 20, 2) := by decide +kernel
theorem dX10_copyFrom_27 : decode cX10_copyFrom 27 = .ok (.invokestatic 26, 3) := by decide +kernel
theorem dX10_copyFrom_30 : decode cX10_copyFrom 30 = .ok (.aload_n 0, 1) := by decide +kernel
theorem dX10_copyFrom_31 : decode cX10_copyFrom 31 = .ok (.aload_n 1, 1) := by decide +kernel
theorem dX10_copyFrom_32 : decode cX10_copyFrom 32 = .ok (.getfield 22, 3) := by decide +kernel
theorem dX10_copyFrom_35 : decode cX10_copyFrom 35 = .ok (.putfield 22, 3) := by decide +kernel
theorem dX10_copyFrom_38 : decode cX10_copyFrom 38 = .ok (.return_, 1) := by decide +kernel
theorem dX10_has_0 : decode cX10_has 0 = .ok (.iload_n 1, 1) := by decide +kernel
theorem dX10_has_1 : decode cX10_has 1 = .ok (.ifCond .lt 21, 3) := by decide +kernel
theorem dX10_has_4 : decode cX10_has 4 = .ok (.iload_n 1, 1) := by decide +kernel
theorem dX10_has_5 : decode cX10_has 5 = .ok (.aload_n 0, 1) := by decide +kernel
theorem dX10_has_6 : decode cX10_has 6 = .ok (.getfield 22, 3) := by decide +kernel
theorem dX10_has_9 : decode cX10_has 9 = .ok (.if_icmp .ge 13, 3) := by decide +kernel
theorem dX10_has_12 : decode cX10_has 12 = .ok (.iload_n 1, 1) := by decide +kernel
theorem dX10_has_13 : decode cX10_has 13 = .ok (.bipush 20, 2) := by decide +kernel
theorem dX10_has_15 : decode cX10_has 15 = .ok (.if_icmp .ge 7, 3) := by decide +kernel
theorem dX10_has_18 : decode cX10_has 18 = .ok (.iconst 1, 1) := by decide +kernel
theorem dX10_has_19 : decode cX10_has 19 = .ok (.goto 4, 3) := by decide +kernel
theorem dX10_has_22 : decode cX10_has 22 = .ok (.iconst 0, 1) := by decide +kernel
theorem dX10_has_23 : decode cX10_has 23 = .ok (.ireturn, 1) := by decide +kernel
theorem dJ6_bitCount_0f7a4_0 : decode cJ6_bitCount_0f7a4 0 = .ok (.iload_n 0, 1) := by decide +kernel
theorem dJ6_bitCount_0f7a4_1 : decode cJ6_bitCount_0f7a4 1 = .ok (.iload_n 0, 1) := by decide +kernel
theorem dJ6_bitCount_0f7a4_2 : decode cJ6_bitCount_0f7a4 2 = .ok (.iconst 1, 1) := by decide +kernel
theorem dJ6_bitCount_0f7a4_3 : decode cJ6_bitCount_0f7a4 3 = .ok (.iushr, 1) := by decide +kernel
theorem dJ6_bitCount_0f7a4_4 : decode cJ6_bitCount_0f7a4 4 = .ok (.ldc_w 265, 3) := by decide +kernel
theorem dJ6_bitCount_0f7a4_7 : decode cJ6_bitCount_0f7a4 7 = .ok (.iand, 1) := by decide +kernel
theorem dJ6_bitCount_0f7a4_8 : decode cJ6_bitCount_0f7a4 8 = .ok (.isub, 1) := by decide +kernel
theorem dJ6_bitCount_0f7a4_9 : decode cJ6_bitCount_0f7a4 9 = .ok (.istore_n 0, 1) := by decide +kernel
theorem dJ6_bitCount_0f7a4_10 : decode cJ6_bitCount_0f7a4 10 = .ok (.iload_n 0, 1) := by decide +kernel
theorem dJ6_bitCount_0f7a4_11 : decode cJ6_bitCount_0f7a4 11 = .ok (.ldc_w 266, 3) := by decide +kernel
theorem dJ6_bitCount_0f7a4_14 : decode cJ6_bitCount_0f7a4 14 = .ok (.iand, 1) := by decide +kernel
theorem dJ6_bitCount_0f7a4_15 : decode cJ6_bitCount_0f7a4 15 = .ok (.iload_n 0, 1) := by decide +kernel
theorem dJ6_bitCount_0f7a4_16 : decode cJ6_bitCount_0f7a4 16 = .ok (.iconst 2, 1) := by decide +kernel
theorem dJ6_bitCount_0f7a4_17 : decode cJ6_bitCount_0f7a4 17 = .ok (.iushr, 1) := by decide +kernel
theorem dJ6_bitCount_0f7a4_18 : decode cJ6_bitCount_0f7a4 18 = .ok (.ldc_w 266, 3) := by decide +kernel
theorem dJ6_bitCount_0f7a4_21 : decode cJ6_bitCount_0f7a4 21 = .ok (.iand, 1) := by decide +kernel
theorem dJ6_bitCount_0f7a4_22 : decode cJ6_bitCount_0f7a4 22 = .ok (.iadd, 1) := by decide +kernel
theorem dJ6_bitCount_0f7a4_23 : decode cJ6_bitCount_0f7a4 23 = .ok (.istore_n 0, 1) := by decide +kernel
theorem dJ6_bitCount_0f7a4_24 : decode cJ6_bitCount_0f7a4 24 = .ok (.iload_n 0, 1) := by decide +kernel
theorem dJ6_bitCount_0f7a4_25 : decode cJ6_bitCount_0f7a4 25 = .ok (.iload_n 0, 1) := by decide +kernel
theorem dJ6_bitCount_0f7a4_26 : decode cJ6_bitCount_0f7a4 26 = .ok (.iconst 4, 1) := by decide +kernel
theorem dJ6_bitCount_0f7a4_27 : decode cJ6_bitCount_0f7a4 27 = .ok (.iushr, 1) := by decide +kernel
theorem dJ6_bitCount_0f7a4_28 : decode cJ6_bitCount_0f7a4 28 = .ok (.iadd, 1) := by decide +kernel
theorem dJ6_bitCount_0f7a4_29 : decode cJ6_bitCount_0f7a4 29 = .ok (.ldc_w 267, 3) := by decide +kernel
theorem dJ6_bitCount_0f7a4_32 : decode cJ6_bitCount_0f7a4 32 = .ok (.iand, 1) := by decide +kernel
theorem dJ6_bitCount_0f7a4_33 : decode cJ6_bitCount_0f7a4 33 = .ok (.istore_n 0, 1) := by decide +kernel
theorem dJ6_bitCount_0f7a4_34 : decode cJ6_bitCount_0f7a4 34 = .ok (.iload_n 0, 1) := by decide +kernel
theorem dJ6_bitCount_0f7a4_35 : decode cJ6_bitCount_0f7a4 35 = .ok (.iload_n 0, 1) := by decide +kernel
theorem dJ6_bitCount_0f7a4_36 : decode cJ6_bitCount_0f7a4 36 = .ok (.bipush 8, 2) := by decide +kernel
theorem dJ6_bitCount_0f7a4_38 : decode cJ6_bitCount_0f7a4 38 = .ok (.iushr, 1) := by decide +kernel
theorem dJ6_bitCount_0f7a4_39 : decode cJ6_bitCount_0f7a4 39 = .ok (.iadd, 1) := by decide +kernel
theorem dJ6_bitCount_0f7a4_40 : decode cJ6_bitCount_0f7a4 40 = .ok (.istore_n 0, 1) := by decide +kernel
theorem dJ6_bitCount_0f7a4_41 : decode cJ6_bitCount_0f7a4 41 = .ok (.iload_n 0, 1) := by decide +kernel
theorem dJ6_bitCount_0f7a4_42 : decode cJ6_bitCount_0f7a4 42 = .ok (.iload_n 0, 1) := by decide +kernel
theorem dJ6_bitCount_0f7a4_43 : decode cJ6_bitCount_0f7a4 43 = .ok (.bipush 16, 2) := by decide +kernel
theorem dJ6_bitCount_0f7a4_45 : decode cJ6_bitCount_0f7a4 45 = .ok (.iushr, 1) := by decide +kernel
theorem dJ6_bitCount_0f7a4_46 : decode cJ6_bitCount_0f7a4 46 = .ok (.iadd, 1) := by decide +kernel
theorem dJ6_bitCount_0f7a4_47 : decode cJ6_bitCount_0f7a4 47 = .ok (.istore_n 0, 1) := by decide +kernel
theorem dJ6_bitCount_0f7a4_48 : decode cJ6_bitCount_0f7a4 48 = .ok (.iload_n 0, 1) := by decide +kernel
theorem dJ6_bitCount_0f7a4_49 : decode cJ6_bitCount_0f7a4 49 = .ok (.bipush 63, 2) := by decide +kernel
theorem dJ6_bitCount_0f7a4_51 : decode cJ6_bitCount_0f7a4 51 = .ok (.iand, 1) := by decide +kernel
theorem dJ6_bitCount_0f7a4_52 : decode cJ6_bitCount_0f7a4 52 = .ok (.ireturn, 1) := by decide +kernel
theorem dJ9_max_7cf53_0 : decode cJ9_max_7cf53 0 = .ok (.iload_n 0, 1) := by decide +kernel
theorem dJ9_max_7cf53_1 : decode cJ9_max_7cf53 1 = .ok (.iload_n 1, 1) := by decide +kernel
theorem dJ9_max_7cf53_2 : decode cJ9_max_7cf53 2 = .ok (.if_icmp .lt 7, 3) := by decide +kernel
theorem dJ9_max_7cf53_5 : decode cJ9_max_7cf53 5 = .ok (.iload_n 0, 1) := by decide +kernel
theorem dJ9_max_7cf53_6 : decode cJ9_max_7cf53 6 = .ok (.goto 4, 3) := by decide +kernel
theorem dJ9_max_7cf53_9 : decode cJ9_max_7cf53 9 = .ok (.iload_n 1, 1) := by decide +kernel
theorem dJ9_max_7cf53_10 : decode cJ9_max_7cf53 10 = .ok (.ireturn, 1) := by decide +kernel
theorem dJ9_min_7cf53_0 : decode cJ9_min_7cf53 0 = .ok (.iload_n 0, 1) := by decide +kernel
theorem dJ9_min_7cf53_1 : decode cJ9_min_7cf53 1 = .ok (.iload_n 1, 1) := by decide +kernel
theorem dJ9_min_7cf53_2 : decode cJ9_min_7cf53 2 = .ok (.if_icmp .gt 7, 3) := by decide +kernel
theorem dJ9_min_7cf53_5 : decode cJ9_min_7cf53 5 = .ok (.iload_n 0, 1) := by decide +kernel
theorem dJ9_min_7cf53_6 : decode cJ9_min_7cf53 6 = .ok (.goto 4, 3) := by decide +kernel
theorem dJ9_min_7cf53_9 : decode cJ9_min_7cf53 9 = .ok (.iload_n 1, 1) := by decide +kernel
theorem dJ9_min_7cf53_10 : decode cJ9_min_7cf53 10 = .ok (.ireturn, 1) := by decide +kernel
