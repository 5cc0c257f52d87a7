theorem dX5_init_0 : decode cX5_init 0 = .ok (.aload_n 0, 1) := by decide +kernel
theorem dX5_init_1 : decode cX5_init 1 = .ok (.invokespecial 1, 3) := by decide +kernel
theorem dX5_init_4 : decode cX5_init 4 = .ok (.aload_n 0, 1) := by decide +kernel
theorem dX5_init_5 : decode cX5_init 5 = .ok (.bipush 69, 2) := by decide +kernel
theorem dX5_init_7 : decode cX5_init 7 = .ok (.newarray .int, 2) := by decide +kernel
theorem dX5_init_9 : decode cX5_init 9 = .ok (.putfield 7, 3) := by decide +kernel
theorem dX5_init_12 : decode cX5_init 12 = .ok (.aload_n 0, 1) := by decide +kernel
theorem dX5_init_13 : decode cX5_init 13 = .ok (.sipush 138, 3) := by decide +kernel
theorem dX5_init_16 : decode cX5_init 16 = .ok (.newarray .int, 2) := by decide +kernel
theorem dX5_init_18 : decode cX5_init 18 = .ok (.putfield 13, 3) := by decide +kernel
theorem dX5_init_21 : decode cX5_init 21 = .ok (.aload_n 0, 1) := by decide +kernel
theorem dX5_init_22 : decode cX5_init 22 = .ok (.iconst 2, 1) := by decide +kernel
theorem dX5_init_23 : decode cX5_init 23 = .ok (.newarray .boolean, 2) := by decide +kernel
theorem dX5_init_25 : decode cX5_init 25 = .ok (.putfield 16, 3) := by decide +kernel
theorem dX5_init_28 : decode cX5_init 28 = .ok (.aload_n 0, 1) := by decide +kernel
theorem dX5_init_29 : decode cX5_init 29 = .ok (.bipush 40, 2) := by decide +kernel
theorem dX5_init_31 : decode cX5_init 31 = .ok (.newarray .int, 2) := by decide +kernel
theorem dX5_init_33 : decode cX5_init 33 = .ok (.putfield 20, 3) := by decide +kernel
theorem dX5_init_36 : decode cX5_init 36 = .ok (.aload_n 0, 1) := by decide +kernel
theorem dX5_init_37 : decode cX5_init 37 = .ok (.sipush 610, 3) := by decide +kernel
theorem dX5_init_40 : decode cX5_init 40 = .ok (.newarray .int, 2) := by decide +kernel
theorem dX5_init_42 : decode cX5_init 42 = .ok (.putfield 23, 3) := by decide +kernel
theorem dX5_init_45 : decode cX5_init 45 = .ok (.aload_n 0, 1) := by decide +kernel
theorem dX5_init_46 : decode cX5_init 46 = .ok (.sipush 366, 3) := by decide +kernel
theorem dX5_init_49 : decode cX5_init 49 = .ok (.newarray .int, 2) := by decide +kernel
theorem dX5_init_51 : decode cX5_init 51 = .ok (.putfield 26, 3) := by decide +kernel
theorem dX5_init_54 : decode cX5_init 54 = .ok (.aload_n 0, 1) := by decide +kernel
theorem dX5_init_55 : decode cX5_init 55 = .ok (.bipush 6, 2) := by decide +kernel
theorem dX5_init_57 : decode cX5_init 57 = .ok (.newarray .int, 2) := by decide +kernel
theorem dX5_init_59 : decode cX5_init 59 = .ok (.putfield 29, 3) := by decide +kernel
theorem dX5_init_62 : decode cX5_init 62 = .ok (.aload_n 0, 1) := by decide +kernel
theorem dX5_init_63 : decode cX5_init 63 = .ok (.sipush 366, 3) := by decide +kernel
theorem dX5_init_66 : decode cX5_init 66 = .ok (.newarray .int, 2) := by decide +kernel
theorem dX5_init_68 : decode cX5_init 68 = .ok (.putfield 32, 3) := by decide +kernel
theorem dX5_init_71 : decode cX5_init 71 = .ok (.aload_n 0, 1) := by decide +kernel
theorem dX5_init_72 : decode cX5_init 72 = .ok (.sipush 366, 3) := by decide +kernel
theorem dX5_init_75 : decode cX5_init 75 = .ok (.newarray .int, 2) := by decide +kernel
theorem dX5_init_77 : decode cX5_init 77 = .ok (.putfield 35, 3) := by decide +kernel
theorem dX5_init_80 : decode cX5_init 80 = .ok (.aload_n 0, 1) := by decide +kernel
theorem dX5_init_81 : decode cX5_init 81 = .ok (.sipush 366, 3) := by decide +kernel
theorem dX5_init_84 : decode cX5_init 84 = .ok (.newarray .int, 2) := by decide +kernel
theorem dX5_init_86 : decode cX5_init 86 = .ok (.putfield 38, 3) := by decide +kernel
theorem dX5_init_89 : decode cX5_init 89 = .ok (.aload_n 0, 1) := by decide +kernel
theorem dX5_init_90 : decode cX5_init 90 = .ok (.bipush 6, 2) := by decide +kernel
theorem dX5_init_92 : decode cX5_init 92 = .ok (.newarray .int, 2) := by decide +kernel
theorem dX5_init_94 : decode cX5_init 94 = .ok (.putfield 41, 3) := by decide +kernel
theorem dX5_init_97 : decode cX5_init 97 = .ok (.aload_n 0, 1) := by decide +kernel
theorem dX5_init_98 : decode cX5_init 98 = .ok (.bipush 30, 2) := by decide +kernel
theorem dX5_init_100 : decode cX5_init 100 = .ok (.newarray .int, 2) := by decide +kernel
theorem dX5_init_102 : decode cX5_init 102 = .ok (.putfield 44, 3) := by decide +kernel
theorem dX5_init_105 : decode cX5_init 105 = .ok (.aload_n 0, 1) := by decide +kernel
theorem dX5_init_106 : decode cX5_init 106 = .ok (.bipush 6, 2) := by decide +kernel
theorem dX5_init_108 : decode cX5_init 108 = .ok (.newarray .int, 2) := by decide +kernel
theorem dX5_init_110 : decode cX5_init 110 = .ok (.putfield 47, 3) := by decide +kernel
theorem dX5_init_113 : decode cX5_init 113 = .ok (.iconst 0, 1) := by decide +kernel
theorem dX5_init_114 : decode cX5_init 114 = .ok (.istore_n 1, 1) := by decide +kernel
theorem dX5_init_115 : decode cX5_init 115 = .ok (.iload_n 1, 1) := by decide +kernel
theorem dX5_init_116 : decode cX5_init 116 = .ok (.bipush 6, 2) := by decide +kernel
theorem dX5_init_118 : decode cX5_init 118 = .ok (.if_icmp .ge 20, 3) := by decide +kernel
theorem dX5_init_121 : decode cX5_init 121 = .ok (.aload_n 0, 1) := by decide +kernel
theorem dX5_init_122 : decode cX5_init 122 = .ok (.getfield 7, 3) := by decide +kernel
theorem dX5_init_125 : decode cX5_init 125 = .ok (.bipush 6, 2) := by decide +kernel
theorem dX5_init_127 : decode cX5_init 127 = .ok (.iload_n 1, 1) := by decide +kernel
theorem dX5_init_128 : decode cX5_init 128 = .ok (.iadd, 1) := by decide +kernel
theorem dX5_init_129 : decode cX5_init 129 = .ok (.bipush 10, 2) := by decide +kernel
theorem dX5_init_131 : decode cX5_init 131 = .ok (.iastore, 1) := by decide +kernel
theorem dX5_init_132 : decode cX5_init 132 = .ok (.iinc 1 1, 3) := by decide +kernel
theorem dX5_init_135 : decode cX5_init 135 = .ok (.goto (-20), 3) := by decide +kernel
theorem dX5_init_138 : decode cX5_init 138 = .ok (.return_, 1) := by decide +kernel
theorem dX5_in_0 : decode cX5_in 0 = .ok (.iload_n 0, 1) := by decide +kernel
theorem dX5_in_1 : decode cX5_in 1 = .ok (.iload_n 1, 1) := by decide +kernel
theorem dX5_in_2 : decode cX5_in 2 = .ok (.if_icmp .lt 12, 3) := by decide +kernel
theorem dX5_in_5 : decode cX5_in 5 = .ok (.iload_n 0, 1) := by decide +kernel
theorem dX5_in_6 : decode cX5_in 6 = .ok (.iload_n 2, 1) := by decide +kernel
theorem dX5_in_7 : decode cX5_in 7 = .ok (.if_icmp .gt 7, 3) := by decide +kernel
theorem dX5_in_10 : decode cX5_in 10 = .ok (.iconst 1, 1) := by decide +kernel
theorem dX5_in_11 : decode cX5_in 11 = .ok (.goto 4, 3) := by decide +kernel
theorem dX5_in_14 : decode cX5_in 14 = .ok (.iconst 0, 1) := by decide +kernel
theorem dX5_in_15 : decode cX5_in 15 = .ok (.ireturn, 1) := by decide +kernel
theorem dX5_isRoom_0 : decode cX5_isRoom 0 = .ok (.iload_n 0, 1) := by decide +kernel
theorem dX5_isRoom_1 : decode cX5_isRoom 1 = .ok (.iconst 0, 1) := by decide +kernel
theorem dX5_isRoom_2 : decode cX5_isRoom 2 = .ok (.iconst 5, 1) := by decide +kernel
theorem dX5_isRoom_3 : decode cX5_isRoom 3 = .ok (.invokestatic 50, 3) := by decide +kernel
theorem dX5_isRoom_6 : decode cX5_isRoom 6 = .ok (.ireturn, 1) := by decide +kernel
theorem dX5_many_0 : decode cX5_many 0 = .ok (.aload_n 0, 1) := by decide +kernel
theorem dX5_many_1 : decode cX5_many 1 = .ok (.getfield 7, 3) := by decide +kernel
theorem dX5_many_4 : decode cX5_many 4 = .ok (.bipush 68, 2) := by decide +kernel
theorem dX5_many_6 : decode cX5_many 6 = .ok (.iaload, 1) := by decide +kernel
theorem dX5_many_7 : decode cX5_many 7 = .ok (.ireturn, 1) := by decide +kernel
theorem dX5_isPassage_0 : decode cX5_isPassage 0 = .ok (.iload_n 1, 1) := by decide +kernel
theorem dX5_isPassage_1 : decode cX5_isPassage 1 = .ok (.iconst 0, 1) := by decide +kernel
theorem dX5_isPassage_2 : decode cX5_isPassage 2 = .ok (.aload_n 0, 1) := by decide +kernel
theorem dX5_isPassage_3 : decode cX5_isPassage 3 = .ok (.invokevirtual 54, 3) := by decide +kernel
theorem dX5_isPassage_6 : decode cX5_isPassage 6 = .ok (.iconst 1, 1) := by decide +kernel
theorem dX5_isPassage_7 : decode cX5_isPassage 7 = .ok (.isub, 1) := by decide +kernel
theorem dX5_isPassage_8 : decode cX5_isPassage 8 = .ok (.invokestatic 50, 3) := by decide +kernel
theorem dX5_isPassage_11 : decode cX5_isPassage 11 = .ok (.ireturn, 1) := by decide +kernel
theorem dX5_isSafe_0 : decode cX5_isSafe 0 = .ok (.aload_n 0, 1) := by decide +kernel
theorem dX5_isSafe_1 : decode cX5_isSafe 1 = .ok (.getfield 7, 3) := by decide +kernel
theorem dX5_isSafe_4 : decode cX5_isSafe 4 = .ok (.bipush 12, 2) := by decide +kernel
theorem dX5_isSafe_6 : decode cX5_isSafe 6 = .ok (.iload_n 1, 1) := by decide +kernel
theorem dX5_isSafe_7 : decode cX5_isSafe 7 = .ok (.iadd, 1) := by decide +kernel
theorem dX5_isSafe_8 : decode cX5_isSafe 8 = .ok (.iaload, 1) := by decide +kernel
theorem dX5_isSafe_9 : decode cX5_isSafe 9 = .ok (.iconst 1, 1) := by decide +kernel
theorem dX5_isSafe_10 : decode cX5_isSafe 10 = .ok (.if_icmp .ne 7, 3) := by decide +kernel
theorem dX5_isSafe_13 : decode cX5_isSafe 13 = .ok (.iconst 1, 1) := by decide +kernel
theorem dX5_isSafe_14 : decode cX5_isSafe 14 = .ok (.goto 4, 3) := by decide +kernel
theorem dX5_isSafe_17 : decode cX5_isSafe 17 = .ok (.iconst 0, 1) := by decide +kernel
theorem dX5_isSafe_18 : decode cX5_isSafe 18 = .ok (.ireturn, 1) := by decide +kernel
theorem dX5_people_0 : decode cX5_people 0 = .ok (.iconst 0, 1) := by decide +kernel
theorem dX5_people_1 : decode cX5_people 1 = .ok (.istore_n 1, 1) := by decide +kernel
theorem dX5_people_2 : decode cX5_people 2 = .ok (.iconst 0, 1) := by decide +kernel
theorem dX5_people_3 : decode cX5_people 3 = .ok (.istore_n 2, 1) := by decide +kernel
theorem dX5_people_4 : decode cX5_people 4 = .ok (.iload_n 2, 1) := by decide +kernel
theorem dX5_people_5 : decode cX5_people 5 = .ok (.bipush 6, 2) := by decide +kernel
theorem dX5_people_7 : decode cX5_people 7 = .ok (.if_icmp .ge 20, 3) := by decide +kernel
theorem dX5_people_10 : decode cX5_people 10 = .ok (.iload_n 1, 1) := by decide +kernel
theorem dX5_people_11 : decode cX5_people 11 = .ok (.aload_n 0, 1) := by decide +kernel
theorem dX5_people_12 : decode cX5_people 12 = .ok (.getfield 7, 3) := by decide +kernel
theorem dX5_people_15 : decode cX5_people 15 = .ok (.iconst 0, 1) := by decide +kernel
theorem dX5_people_16 : decode cX5_people 16 = .ok (.iload_n 2, 1) := by decide +kernel
theorem dX5_people_17 : decode cX5_people 17 = .ok (.iadd, 1) := by decide +kernel
theorem dX5_people_18 : decode cX5_people 18 = .ok (.iaload, 1) := by decide +kernel
theorem dX5_people_19 : decode cX5_people 19 = .ok (.iadd, 1) := by decide +kernel
theorem dX5_people_20 : decode cX5_people 20 = .ok (.istore_n 1, 1) := by decide +kernel
theorem dX5_people_21 : decode cX5_people 21 = .ok (.iinc 2 1, 3) := by decide +kernel
theorem dX5_people_24 : decode cX5_people 24 = .ok (.goto (-20), 3) := by decide +kernel
theorem dX5_people_27 : decode cX5_people 27 = .ok (.iload_n 1, 1) := by decide +kernel
theorem dX5_people_28 : decode cX5_people 28 = .ok (.ireturn, 1) := by decide +kernel
theorem dX5_room_0 : decode cX5_room 0 = .ok (.iload_n 1, 1) := by decide +kernel
theorem dX5_room_1 : decode cX5_room 1 = .ok (.invokestatic 58, 3) := by decide +kernel
theorem dX5_room_4 : decode cX5_room 4 = .ok (.ifCond .ne 5, 3) := by decide +kernel
theorem dX5_room_7 : decode cX5_room 7 = .ok (.iconst (-1), 1) := by decide +kernel
theorem dX5_room_8 : decode cX5_room 8 = .ok (.ireturn, 1) := by decide +kernel
theorem dX5_room_9 : decode cX5_room 9 = .ok (.iload_n 2, 1) := by decide +kernel
theorem dX5_room_10 : decode cX5_room 10 = .ok (.iconst 0, 1) := by decide +kernel
theorem dX5_room_11 : decode cX5_room 11 = .ok (.bipush 30, 2) := by decide +kernel
theorem dX5_room_13 : decode cX5_room 13 = .ok (.invokestatic 50, 3) := by decide +kernel
theorem dX5_room_16 : decode cX5_room 16 = .ok (.ifCond .eq 13, 3) := by decide +kernel
theorem dX5_room_19 : decode cX5_room 19 = .ok (.iload_n 3, 1) := by decide +kernel
theorem dX5_room_20 : decode cX5_room 20 = .ok (.iconst 1, 1) := by decide +kernel
theorem dX5_room_21 : decode cX5_room 21 = .ok (.bipush 99, 2) := by decide +kernel
theorem dX5_room_23 : decode cX5_room 23 = .ok (.invokestatic 50, 3) := by decide +kernel
theorem dX5_room_26 : decode cX5_room 26 = .ok (.ifCond .ne 6, 3) := by decide +kernel
theorem dX5_room_29 : decode cX5_room 29 = .ok (.bipush (-2), 2) := by decide +kernel
theorem dX5_room_31 : decode cX5_room 31 = .ok (.ireturn, 1) := by decide +kernel
theorem dX5_room_32 : decode cX5_room 32 = .ok (.aload_n 0, 1) := by decide +kernel
theorem dX5_room_33 : decode cX5_room 33 = .ok (.getfield 7, 3) := by decide +kernel
theorem dX5_room_36 : decode cX5_room 36 = .ok (.iconst 0, 1) := by decide +kernel
theorem dX5_room_37 : decode cX5_room 37 = .ok (.iload_n 1, 1) := by decide +kernel
theorem dX5_room_38 : decode cX5_room 38 = .ok (.iadd, 1) := by decide +kernel
theorem dX5_room_39 : decode cX5_room 39 = .ok (.iaload, 1) := by decide +kernel
theorem dX5_room_40 : decode cX5_room 40 = .ok (.istore 4, 2) := by decide +kernel
theorem dX5_room_42 : decode cX5_room 42 = .ok (.aload_n 0, 1) := by decide +kernel
theorem dX5_room_43 : decode cX5_room 43 = .ok (.getfield 7, 3) := by decide +kernel
theorem dX5_room_46 : decode cX5_room 46 = .ok (.iconst 0, 1) := by decide +kernel
theorem dX5_room_47 : decode cX5_room 47 = .ok (.iload_n 1, 1) := by decide +kernel
theorem dX5_room_48 : decode cX5_room 48 = .ok (.iadd, 1) := by decide +kernel
theorem dX5_room_49 : decode cX5_room 49 = .ok (.iload_n 2, 1) := by decide +kernel
theorem dX5_room_50 : decode cX5_room 50 = .ok (.iastore, 1) := by decide +kernel
theorem dX5_room_51 : decode cX5_room 51 = .ok (.aload_n 0, 1) := by decide +kernel
theorem dX5_room_52 : decode cX5_room 52 = .ok (.getfield 7, 3) := by decide +kernel
theorem dX5_room_55 : decode cX5_room 55 = .ok (.bipush 6, 2) := by decide +kernel
theorem dX5_room_57 : decode cX5_room 57 = .ok (.iload_n 1, 1) := by decide +kernel
theorem dX5_room_58 : decode cX5_room 58 = .ok (.iadd, 1) := by decide +kernel
theorem dX5_room_59 : decode cX5_room 59 = .ok (.iload_n 3, 1) := by decide +kernel
theorem dX5_room_60 : decode cX5_room 60 = .ok (.iastore, 1) := by decide +kernel
theorem dX5_room_61 : decode cX5_room 61 = .ok (.iload 4, 2) := by decide +kernel
theorem dX5_room_63 : decode cX5_room 63 = .ok (.ireturn, 1) := by decide +kernel
theorem dX5_safe_0 : decode cX5_safe 0 = .ok (.iload_n 1, 1) := by decide +kernel
theorem dX5_safe_1 : decode cX5_safe 1 = .ok (.invokestatic 58, 3) := by decide +kernel
theorem dX5_safe_4 : decode cX5_safe 4 = .ok (.ifCond .ne 5, 3) := by decide +kernel
theorem dX5_safe_7 : decode cX5_safe 7 = .ok (.iconst (-1), 1) := by decide +kernel
theorem dX5_safe_8 : decode cX5_safe 8 = .ok (.ireturn, 1) := by decide +kernel
theorem dX5_safe_9 : decode cX5_safe 9 = .ok (.iload_n 2, 1) := by decide +kernel
theorem dX5_safe_10 : decode cX5_safe 10 = .ok (.iconst 0, 1) := by decide +kernel
theorem dX5_safe_11 : decode cX5_safe 11 = .ok (.iconst 1, 1) := by decide +kernel
theorem dX5_safe_12 : decode cX5_safe 12 = .ok (.invokestatic 50, 3) := by decide +kernel
theorem dX5_safe_15 : decode cX5_safe 15 = .ok (.ifCond .ne 6, 3) := by decide +kernel
theorem dX5_safe_18 : decode cX5_safe 18 = .ok (.bipush (-2), 2) := by decide +kernel
theorem dX5_safe_20 : decode cX5_safe 20 = .ok (.ireturn, 1) := by decide +kernel
theorem dX5_safe_21 : decode cX5_safe 21 = .ok (.aload_n 0, 1) := by decide +kernel
theorem dX5_safe_22 : decode cX5_safe 22 = .ok (.getfield 7, 3) := by decide +kernel
theorem dX5_safe_25 : decode cX5_safe 25 = .ok (.bipush 12, 2) := by decide +kernel
theorem dX5_safe_27 : decode cX5_safe 27 = .ok (.iload_n 1, 1) := by decide +kernel
theorem dX5_safe_28 : decode cX5_safe 28 = .ok (.iadd, 1) := by decide +kernel
theorem dX5_safe_29 : decode cX5_safe 29 = .ok (.iload_n 2, 1) := by decide +kernel
theorem dX5_safe_30 : decode cX5_safe 30 = .ok (.iastore, 1) := by decide +kernel
theorem dX5_safe_31 : decode cX5_safe 31 = .ok (.iconst 0, 1) := by decide +kernel
theorem dX5_safe_32 : decode cX5_safe 32 = .ok (.istore_n 3, 1) := by decide +kernel
theorem dX5_safe_33 : decode cX5_safe 33 = .ok (.iconst 0, 1) := by decide +kernel
theorem dX5_safe_34 : decode cX5_safe 34 = .ok (.istore 4, 2) := by decide +kernel
theorem dX5_safe_36 : decode cX5_safe 36 = .ok (.iload 4, 2) := by decide +kernel
theorem dX5_safe_38 : decode cX5_safe 38 = .ok (.bipush 6, 2) := by decide +kernel
theorem dX5_safe_40 : decode cX5_safe 40 = .ok (.if_icmp .ge 22, 3) := by decide +kernel
theorem dX5_safe_43 : decode cX5_safe 43 = .ok (.iload_n 3, 1) := by decide +kernel
theorem dX5_safe_44 : decode cX5_safe 44 = .ok (.aload_n 0, 1) := by decide +kernel
theorem dX5_safe_45 : decode cX5_safe 45 = .ok (.getfield 7, 3) := by decide +kernel
theorem dX5_safe_48 : decode cX5_safe 48 = .ok (.bipush 12, 2) := by decide +kernel
theorem dX5_safe_50 : decode cX5_safe 50 = .ok (.iload 4, 2) := by decide +kernel
theorem dX5_safe_52 : decode cX5_safe 52 = .ok (.iadd, 1) := by decide +kernel
theorem dX5_safe_53 : decode cX5_safe 53 = .ok (.iaload, 1) := by decide +kernel
theorem dX5_safe_54 : decode cX5_safe 54 = .ok (.iadd, 1) := by decide +kernel
theorem dX5_safe_55 : decode cX5_safe 55 = .ok (.istore_n 3, 1) := by decide +kernel
theorem dX5_safe_56 : decode cX5_safe 56 = .ok (.iinc 4 1, 3) := by decide +kernel
theorem dX5_safe_59 : decode cX5_safe 59 = .ok (.goto (-23), 3) := by decide +kernel
theorem dX5_safe_62 : decode cX5_safe 62 = .ok (.iload_n 3, 1) := by decide +kernel
theorem dX5_safe_63 : decode cX5_safe 63 = .ok (.ireturn, 1) := by decide +kernel
theorem dX5_add_0 : decode cX5_add 0 = .ok (.aload_n 0, 1) := by decide +kernel
theorem dX5_add_1 : decode cX5_add 1 = .ok (.invokevirtual 54, 3) := by decide +kernel
theorem dX5_add_4 : decode cX5_add 4 = .ok (.istore 5, 2) := by decide +kernel
theorem dX5_add_6 : decode cX5_add 6 = .ok (.aload_n 0, 1) := by decide +kernel
theorem dX5_add_7 : decode cX5_add 7 = .ok (.getfield 7, 3) := by decide +kernel
theorem dX5_add_10 : decode cX5_add 10 = .ok (.bipush 18, 2) := by decide +kernel
theorem dX5_add_12 : decode cX5_add 12 = .ok (.iload 5, 2) := by decide +kernel
theorem dX5_add_14 : decode cX5_add 14 = .ok (.iadd, 1) := by decide +kernel
theorem dX5_add_15 : decode cX5_add 15 = .ok (.iload_n 1, 1) := by decide +kernel
theorem dX5_add_16 : decode cX5_add 16 = .ok (.iastore, 1) := by decide +kernel
theorem dX5_add_17 : decode cX5_add 17 = .ok (.aload_n 0, 1) := by decide +kernel
theorem dX5_add_18 : decode cX5_add 18 = .ok (.getfield 7, 3) := by decide +kernel
theorem dX5_add_21 : decode cX5_add 21 = .ok (.bipush 28, 2) := by decide +kernel
theorem dX5_add_23 : decode cX5_add 23 = .ok (.iload 5, 2) := by decide +kernel
theorem dX5_add_25 : decode cX5_add 25 = .ok (.iadd, 1) := by decide +kernel
theorem dX5_add_26 : decode cX5_add 26 = .ok (.iload_n 2, 1) := by decide +kernel
theorem dX5_add_27 : decode cX5_add 27 = .ok (.iastore, 1) := by decide +kernel
theorem dX5_add_28 : decode cX5_add 28 = .ok (.aload_n 0, 1) := by decide +kernel
theorem dX5_add_29 : decode cX5_add 29 = .ok (.getfield 7, 3) := by decide +kernel
theorem dX5_add_32 : decode cX5_add 32 = .ok (.bipush 38, 2) := by decide +kernel
theorem dX5_add_34 : decode cX5_add 34 = .ok (.iload 5, 2) := by decide +kernel
theorem dX5_add_36 : decode cX5_add 36 = .ok (.iadd, 1) := by decide +kernel
theorem dX5_add_37 : decode cX5_add 37 = .ok (.iload_n 3, 1) := by decide +kernel
theorem dX5_add_38 : decode cX5_add 38 = .ok (.iastore, 1) := by decide +kernel
theorem dX5_add_39 : decode cX5_add 39 = .ok (.aload_n 0, 1) := by decide +kernel
theorem dX5_add_40 : decode cX5_add 40 = .ok (.getfield 7, 3) := by decide +kernel
theorem dX5_add_43 : decode cX5_add 43 = .ok (.bipush 48, 2) := by decide +kernel
theorem dX5_add_45 : decode cX5_add 45 = .ok (.iload 5, 2) := by decide +kernel
theorem dX5_add_47 : decode cX5_add 47 = .ok (.iadd, 1) := by decide +kernel
theorem dX5_add_48 : decode cX5_add 48 = .ok (.iload 4, 2) := by decide +kernel
theorem dX5_add_50 : decode cX5_add 50 = .ok (.iastore, 1) := by decide +kernel
theorem dX5_add_51 : decode cX5_add 51 = .ok (.aload_n 0, 1) := by decide +kernel
theorem dX5_add_52 : decode cX5_add 52 = .ok (.getfield 7, 3) := by decide +kernel
theorem dX5_add_55 : decode cX5_add 55 = .ok (.bipush 58, 2) := by decide +kernel
theorem dX5_add_57 : decode cX5_add 57 = .ok (.iload 5, 2) := by decide +kernel
theorem dX5_add_59 : decode cX5_add 59 = .ok (.iadd, 1) := by decide +kernel
theorem dX5_add_60 : decode cX5_add 60 = .ok (.sipush 1000, 3) := by decide +kernel
theorem dX5_add_63 : decode cX5_add 63 = .ok (.iastore, 1) := by decide +kernel
theorem dX5_add_64 : decode cX5_add 64 = .ok (.aload_n 0, 1) := by decide +kernel
theorem dX5_add_65 : decode cX5_add 65 = .ok (.getfield 7, 3) := by decide +kernel
theorem dX5_add_68 : decode cX5_add 68 = .ok (.bipush 68, 2) := by decide +kernel
theorem dX5_add_70 : decode cX5_add 70 = .ok (.dup2, 1) := by decide +kernel
theorem dX5_add_71 : decode cX5_add 71 = .ok (.iaload, 1) := by decide +kernel
theorem dX5_add_72 : decode cX5_add 72 = .ok (.iconst 1, 1) := by decide +kernel
theorem dX5_add_73 : decode cX5_add 73 = .ok (.iadd, 1) := by decide +kernel
theorem dX5_add_74 : decode cX5_add 74 = .ok (.iastore, 1) := by decide +kernel
theorem dX5_add_75 : decode cX5_add 75 = .ok (.iload 5, 2) := by decide +kernel
theorem dX5_add_77 : decode cX5_add 77 = .ok (.ireturn, 1) := by decide +kernel
theorem dX5_passage_0 : decode cX5_passage 0 = .ok (.iload_n 1, 1) := by decide +kernel
theorem dX5_passage_1 : decode cX5_passage 1 = .ok (.invokestatic 58, 3) := by decide +kernel
theorem dX5_passage_4 : decode cX5_passage 4 = .ok (.ifCond .eq 10, 3) := by decide +kernel
theorem dX5_passage_7 : decode cX5_passage 7 = .ok (.iload_n 2, 1) := by decide +kernel
theorem dX5_passage_8 : decode cX5_passage 8 = .ok (.invokestatic 58, 3) := by decide +kernel
theorem dX5_passage_11 : decode cX5_passage 11 = .ok (.ifCond .ne 5, 3) := by decide +kernel
theorem dX5_passage_14 : decode cX5_passage 14 = .ok (.iconst (-1), 1) := by decide +kernel
theorem dX5_passage_15 : decode cX5_passage 15 = .ok (.ireturn, 1) := by decide +kernel
theorem dX5_passage_16 : decode cX5_passage 16 = .ok (.iload_n 1, 1) := by decide +kernel
theorem dX5_passage_17 : decode cX5_passage 17 = .ok (.iload_n 2, 1) := by decide +kernel
theorem dX5_passage_18 : decode cX5_passage 18 = .ok (.if_icmp .eq 23, 3) := by decide +kernel
theorem dX5_passage_21 : decode cX5_passage 21 = .ok (.iload_n 3, 1) := by decide +kernel
theorem dX5_passage_22 : decode cX5_passage 22 = .ok (.iconst 1, 1) := by decide +kernel
theorem dX5_passage_23 : decode cX5_passage 23 = .ok (.bipush 6, 2) := by decide +kernel
theorem dX5_passage_25 : decode cX5_passage 25 = .ok (.invokestatic 50, 3) := by decide +kernel
theorem dX5_passage_28 : decode cX5_passage 28 = .ok (.ifCond .eq 13, 3) := by decide +kernel
theorem dX5_passage_31 : decode cX5_passage 31 = .ok (.iload 4, 2) := by decide +kernel
theorem dX5_passage_33 : decode cX5_passage 33 = .ok (.iconst 1, 1) := by decide +kernel
theorem dX5_passage_34 : decode cX5_passage 34 = .ok (.iconst 4, 1) := by decide +kernel
theorem dX5_passage_35 : decode cX5_passage 35 = .ok (.invokestatic 50, 3) := by decide +kernel
theorem dX5_passage_38 : decode cX5_passage 38 = .ok (.ifCond .ne 6, 3) := by decide +kernel
theorem dX5_passage_41 : decode cX5_passage 41 = .ok (.bipush (-2), 2) := by decide +kernel
theorem dX5_passage_43 : decode cX5_passage 43 = .ok (.ireturn, 1) := by decide +kernel
theorem dX5_passage_44 : decode cX5_passage 44 = .ok (.aload_n 0, 1) := by decide +kernel
theorem dX5_passage_45 : decode cX5_passage 45 = .ok (.invokevirtual 54, 3) := by decide +kernel
theorem dX5_passage_48 : decode cX5_passage 48 = .ok (.bipush 10, 2) := by decide +kernel
theorem dX5_passage_50 : decode cX5_passage 50 = .ok (.if_icmp .ne 8, 3) := by decide +kernel
theorem dX5_passage_53 : decode cX5_passage 53 = .ok (.bipush (-4), 2) := by decide +kernel
theorem dX5_passage_55 : decode cX5_passage 55 = .ok (.goto 12, 3) := by decide +kernel
theorem dX5_passage_58 : decode cX5_passage 58 = .ok (.aload_n 0, 1) := by decide +kernel
theorem dX5_passage_59 : decode cX5_passage 59 = .ok (.iload_n 1, 1) := by decide +kernel
theorem dX5_passage_60 : decode cX5_passage 60 = .ok (.iload_n 2, 1) := by decide +kernel
theorem dX5_passage_61 : decode cX5_passage 61 = .ok (.iload_n 3, 1) := by decide +kernel
theorem dX5_passage_62 : decode cX5_passage 62 = .ok (.iload 4, 2) := by decide +kernel
theorem dX5_passage_64 : decode cX5_passage 64 = .ok (.invokevirtual 62, 3) := by decide +kernel
theorem dX5_passage_67 : decode cX5_passage 67 = .ok (.ireturn, 1) := by decide +kernel
theorem dX5_widen_0 : decode cX5_widen 0 = .ok (.aload_n 0, 1) := by decide +kernel
theorem dX5_widen_1 : decode cX5_widen 1 = .ok (.iload_n 1, 1) := by decide +kernel
theorem dX5_widen_2 : decode cX5_widen 2 = .ok (.invokevirtual 66, 3) := by decide +kernel
theorem dX5_widen_5 : decode cX5_widen 5 = .ok (.ifCond .ne 5, 3) := by decide +kernel
theorem dX5_widen_8 : decode cX5_widen 8 = .ok (.iconst (-1), 1) := by decide +kernel
theorem dX5_widen_9 : decode cX5_widen 9 = .ok (.ireturn, 1) := by decide +kernel
theorem dX5_widen_10 : decode cX5_widen 10 = .ok (.iload_n 2, 1) := by decide +kernel
theorem dX5_widen_11 : decode cX5_widen 11 = .ok (.iconst 1, 1) := by decide +kernel
theorem dX5_widen_12 : decode cX5_widen 12 = .ok (.bipush 6, 2) := by decide +kernel
theorem dX5_widen_14 : decode cX5_widen 14 = .ok (.invokestatic 50, 3) := by decide +kernel
theorem dX5_widen_17 : decode cX5_widen 17 = .ok (.ifCond .ne 6, 3) := by decide +kernel
theorem dX5_widen_20 : decode cX5_widen 20 = .ok (.bipush (-2), 2) := by decide +kernel
theorem dX5_widen_22 : decode cX5_widen 22 = .ok (.ireturn, 1) := by decide +kernel
theorem dX5_widen_23 : decode cX5_widen 23 = .ok (.aload_n 0, 1) := by decide +kernel
theorem dX5_widen_24 : decode cX5_widen 24 = .ok (.getfield 7, 3) := by decide +kernel
theorem dX5_widen_27 : decode cX5_widen 27 = .ok (.bipush 38, 2) := by decide +kernel
theorem dX5_widen_29 : decode cX5_widen 29 = .ok (.iload_n 1, 1) := by decide +kernel
theorem dX5_widen_30 : decode cX5_widen 30 = .ok (.iadd, 1) := by decide +kernel
theorem dX5_widen_31 : decode cX5_widen 31 = .ok (.iaload, 1) := by decide +kernel
theorem dX5_widen_32 : decode cX5_widen 32 = .ok (.istore_n 3, 1) := by decide +kernel
theorem dX5_widen_33 : decode cX5_widen 33 = .ok (.aload_n 0, 1) := by decide +kernel
theorem dX5_widen_34 : decode cX5_widen 34 = .ok (.getfield 7, 3) := by decide +kernel
theorem dX5_widen_37 : decode cX5_widen 37 = .ok (.bipush 38, 2) := by decide +kernel
theorem dX5_widen_39 : decode cX5_widen 39 = .ok (.iload_n 1, 1) := by decide +kernel
theorem dX5_widen_40 : decode cX5_widen 40 = .ok (.iadd, 1) := by decide +kernel
theorem dX5_widen_41 : decode cX5_widen 41 = .ok (.iload_n 2, 1) := by decide +kernel
theorem dX5_widen_42 : decode cX5_widen 42 = .ok (.iastore, 1) := by decide +kernel
theorem dX5_widen_43 : decode cX5_widen 43 = .ok (.iload_n 3, 1) := by decide +kernel
theorem dX5_widen_44 : decode cX5_widen 44 = .ok (.ireturn, 1) := by decide +kernel
theorem dX5_shutFrom_0 : decode cX5_shutFrom 0 = .ok (.aload_n 0, 1) := by decide +kernel
theorem dX5_shutFrom_1 : decode cX5_shutFrom 1 = .ok (.getfield 7, 3) := by decide +kernel
theorem dX5_shutFrom_4 : decode cX5_shutFrom 4 = .ok (.bipush 58, 2) := by decide +kernel
theorem dX5_shutFrom_6 : decode cX5_shutFrom 6 = .ok (.iload_n 1, 1) := by decide +kernel
theorem dX5_shutFrom_7 : decode cX5_shutFrom 7 = .ok (.iadd, 1) := by decide +kernel
theorem dX5_shutFrom_8 : decode cX5_shutFrom 8 = .ok (.iaload, 1) := by decide +kernel
theorem dX5_shutFrom_9 : decode cX5_shutFrom 9 = .ok (.sipush 1000, 3) := by decide +kernel
theorem dX5_shutFrom_12 : decode cX5_shutFrom 12 = .ok (.if_icmp .ne 8, 3) := by decide +kernel
theorem dX5_shutFrom_15 : decode cX5_shutFrom 15 = .ok (.bipush (-6), 2) := by decide +kernel
theorem dX5_shutFrom_17 : decode cX5_shutFrom 17 = .ok (.goto 12, 3) := by decide +kernel
theorem dX5_shutFrom_20 : decode cX5_shutFrom 20 = .ok (.aload_n 0, 1) := by decide +kernel
theorem dX5_shutFrom_21 : decode cX5_shutFrom 21 = .ok (.getfield 7, 3) := by decide +kernel
theorem dX5_shutFrom_24 : decode cX5_shutFrom 24 = .ok (.bipush 58, 2) := by decide +kernel
theorem dX5_shutFrom_26 : decode cX5_shutFrom 26 = .ok (.iload_n 1, 1) := by decide +kernel
theorem dX5_shutFrom_27 : decode cX5_shutFrom 27 = .ok (.iadd, 1) := by decide +kernel
theorem dX5_shutFrom_28 : decode cX5_shutFrom 28 = .ok (.iaload, 1) := by decide +kernel
theorem dX5_shutFrom_29 : decode cX5_shutFrom 29 = .ok (.ireturn, 1) := by decide +kernel
theorem dX5_shut_0 : decode cX5_shut 0 = .ok (.aload_n 0, 1) := by decide +kernel
theorem dX5_shut_1 : decode cX5_shut 1 = .ok (.iload_n 1, 1) := by decide +kernel
theorem dX5_shut_2 : decode cX5_shut 2 = .ok (.invokevirtual 66, 3) := by decide +kernel
theorem dX5_shut_5 : decode cX5_shut 5 = .ok (.ifCond .ne 5, 3) := by decide +kernel
theorem dX5_shut_8 : decode cX5_shut 8 = .ok (.iconst (-1), 1) := by decide +kernel
theorem dX5_shut_9 : decode cX5_shut 9 = .ok (.ireturn, 1) := by decide +kernel
theorem dX5_shut_10 : decode cX5_shut 10 = .ok (.iload_n 2, 1) := by decide +kernel
theorem dX5_shut_11 : decode cX5_shut 11 = .ok (.iconst (-1), 1) := by decide +kernel
theorem dX5_shut_12 : decode cX5_shut 12 = .ok (.bipush 60, 2) := by decide +kernel
theorem dX5_shut_14 : decode cX5_shut 14 = .ok (.invokestatic 50, 3) := by decide +kernel
theorem dX5_shut_17 : decode cX5_shut 17 = .ok (.ifCond .ne 6, 3) := by decide +kernel
theorem dX5_shut_20 : decode cX5_shut 20 = .ok (.bipush (-2), 2) := by decide +kernel
theorem dX5_shut_22 : decode cX5_shut 22 = .ok (.ireturn, 1) := by decide +kernel
theorem dX5_shut_23 : decode cX5_shut 23 = .ok (.aload_n 0, 1) := by decide +kernel
theorem dX5_shut_24 : decode cX5_shut 24 = .ok (.iload_n 1, 1) := by decide +kernel
theorem dX5_shut_25 : decode cX5_shut 25 = .ok (.invokevirtual 69, 3) := by decide +kernel
theorem dX5_shut_28 : decode cX5_shut 28 = .ok (.istore_n 3, 1) := by decide +kernel
theorem dX5_shut_29 : decode cX5_shut 29 = .ok (.aload_n 0, 1) := by decide +kernel
theorem dX5_shut_30 : decode cX5_shut 30 = .ok (.getfield 7, 3) := by decide +kernel
theorem dX5_shut_33 : decode cX5_shut 33 = .ok (.bipush 58, 2) := by decide +kernel
theorem dX5_shut_35 : decode cX5_shut 35 = .ok (.iload_n 1, 1) := by decide +kernel
theorem dX5_shut_36 : decode cX5_shut 36 = .ok (.iadd, 1) := by decide +kernel
theorem dX5_shut_37 : decode cX5_shut 37 = .ok (.iload_n 2, 1) := by decide +kernel
theorem dX5_shut_38 : decode cX5_shut 38 = .ok (.ifCond .ge 9, 3) := by decide +kernel
theorem dX5_shut_41 : decode cX5_shut 41 = .ok (.sipush 1000, 3) := by decide +kernel
theorem dX5_shut_44 : decode cX5_shut 44 = .ok (.goto 4, 3) := by decide +kernel
theorem dX5_shut_47 : decode cX5_shut 47 = .ok (.iload_n 2, 1) := by decide +kernel
theorem dX5_shut_48 : decode cX5_shut 48 = .ok (.iastore, 1) := by decide +kernel
theorem dX5_shut_49 : decode cX5_shut 49 = .ok (.iload_n 3, 1) := by decide +kernel
theorem dX5_shut_50 : decode cX5_shut 50 = .ok (.ireturn, 1) := by decide +kernel
theorem dX5_say_0 : decode cX5_say 0 = .ok (.iload_n 1, 1) := by decide +kernel
theorem dX5_say_1 : decode cX5_say 1 = .ok (.bipush 33, 2) := by decide +kernel
theorem dX5_say_3 : decode cX5_say 3 = .ok (.bipush 126, 2) := by decide +kernel
theorem dX5_say_5 : decode cX5_say 5 = .ok (.invokestatic 50, 3) := by decide +kernel
theorem dX5_say_8 : decode cX5_say 8 = .ok (.ifCond .ne 6, 3) := by decide +kernel
theorem dX5_say_11 : decode cX5_say 11 = .ok (.bipush (-2), 2) := by decide +kernel
theorem dX5_say_13 : decode cX5_say 13 = .ok (.ireturn, 1) := by decide +kernel
theorem dX5_say_14 : decode cX5_say 14 = .ok (.aload_n 0, 1) := by decide +kernel
theorem dX5_say_15 : decode cX5_say 15 = .ok (.getfield 73, 3) := by decide +kernel
theorem dX5_say_18 : decode cX5_say 18 = .ok (.bipush 40, 2) := by decide +kernel
theorem dX5_say_20 : decode cX5_say 20 = .ok (.if_icmp .ne 6, 3) := by decide +kernel
theorem dX5_say_23 : decode cX5_say 23 = .ok (.bipush (-4), 2) := by decide +kernel
theorem dX5_say_25 : decode cX5_say 25 = .ok (.ireturn, 1) := by decide +kernel
theorem dX5_say_26 : decode cX5_say 26 = .ok (.aload_n 0, 1) := by decide +kernel
theorem dX5_say_27 : decode cX5_say 27 = .ok (.getfield 20, 3) := by decide +kernel
theorem dX5_say_30 : decode cX5_say 30 = .ok (.aload_n 0, 1) := by decide +kernel
theorem dX5_say_31 : decode cX5_say 31 = .ok (.getfield 73, 3) := by decide +kernel
theorem dX5_say_34 : decode cX5_say 34 = .ok (.iload_n 1, 1) := by decide +kernel
theorem dX5_say_35 : decode cX5_say 35 = .ok (.iastore, 1) := by decide +kernel
theorem dX5_say_36 : decode cX5_say 36 = .ok (.aload_n 0, 1) := by decide +kernel
theorem dX5_say_37 : decode cX5_say 37 = .ok (.dup, 1) := by decide +kernel
theorem dX5_say_38 : decode cX5_say 38 = .ok (.getfield 73, 3) := by decide +kernel
theorem dX5_say_41 : decode cX5_say 41 = .ok (.iconst 1, 1) := by decide +kernel
theorem dX5_say_42 : decode cX5_say 42 = .ok (.iadd, 1) := by decide +kernel
theorem dX5_say_43 : decode cX5_say 43 = .ok (.putfield 73, 3) := by decide +kernel
theorem dX5_say_46 : decode cX5_say 46 = .ok (.aload_n 0, 1) := by decide +kernel
theorem dX5_say_47 : decode cX5_say 47 = .ok (.getfield 73, 3) := by decide +kernel
theorem dX5_say_50 : decode cX5_say 50 = .ok (.ireturn, 1) := by decide +kernel
theorem dX5_wipe_0 : decode cX5_wipe 0 = .ok (.aload_n 0, 1) := by decide +kernel
theorem dX5_wipe_1 : decode cX5_wipe 1 = .ok (.getfield 73, 3) := by decide +kernel
theorem dX5_wipe_4 : decode cX5_wipe 4 = .ok (.istore_n 1, 1) := by decide +kernel
theorem dX5_wipe_5 : decode cX5_wipe 5 = .ok (.aload_n 0, 1) := by decide +kernel
theorem dX5_wipe_6 : decode cX5_wipe 6 = .ok (.iconst 0, 1) := by decide +kernel
theorem dX5_wipe_7 : decode cX5_wipe 7 = .ok (.putfield 73, 3) := by decide +kernel
theorem dX5_wipe_10 : decode cX5_wipe 10 = .ok (.iload_n 1, 1) := by decide +kernel
theorem dX5_wipe_11 : decode cX5_wipe 11 = .ok (.ireturn, 1) := by decide +kernel
theorem dX5_canStand_0 : decode cX5_canStand 0 = .ok (.iload_n 1, 1) := by decide +kernel
theorem dX5_canStand_1 : decode cX5_canStand 1 = .ok (.iconst 4, 1) := by decide +kernel
theorem dX5_canStand_2 : decode cX5_canStand 2 = .ok (.irem, 1) := by decide +kernel
theorem dX5_canStand_3 : decode cX5_canStand 3 = .ok (.tableswitch 92 0 2 #[25, 39, 78], 25) := by decide +kernel
theorem dX5_canStand_28 : decode cX5_canStand 28 = .ok (.aload_n 0, 1) := by decide +kernel
theorem dX5_canStand_29 : decode cX5_canStand 29 = .ok (.getfield 20, 3) := by decide +kernel
theorem dX5_canStand_32 : decode cX5_canStand 32 = .ok (.iload_n 1, 1) := by decide +kernel
theorem dX5_canStand_33 : decode cX5_canStand 33 = .ok (.iaload, 1) := by decide +kernel
theorem dX5_canStand_34 : decode cX5_canStand 34 = .ok (.bipush 97, 2) := by decide +kernel
theorem dX5_canStand_36 : decode cX5_canStand 36 = .ok (.bipush 102, 2) := by decide +kernel
theorem dX5_canStand_38 : decode cX5_canStand 38 = .ok (.invokestatic 50, 3) := by decide +kernel
theorem dX5_canStand_41 : decode cX5_canStand 41 = .ok (.ireturn, 1) := by decide +kernel
theorem dX5_canStand_42 : decode cX5_canStand 42 = .ok (.aload_n 0, 1) := by decide +kernel
theorem dX5_canStand_43 : decode cX5_canStand 43 = .ok (.getfield 20, 3) := by decide +kernel
theorem dX5_canStand_46 : decode cX5_canStand 46 = .ok (.iload_n 1, 1) := by decide +kernel
theorem dX5_canStand_47 : decode cX5_canStand 47 = .ok (.iaload, 1) := by decide +kernel
theorem dX5_canStand_48 : decode cX5_canStand 48 = .ok (.bipush 97, 2) := by decide +kernel
theorem dX5_canStand_50 : decode cX5_canStand 50 = .ok (.bipush 102, 2) := by decide +kernel
theorem dX5_canStand_52 : decode cX5_canStand 52 = .ok (.invokestatic 50, 3) := by decide +kernel
theorem dX5_canStand_55 : decode cX5_canStand 55 = .ok (.ifCond .eq 24, 3) := by decide +kernel
theorem dX5_canStand_58 : decode cX5_canStand 58 = .ok (.aload_n 0, 1) := by decide +kernel
theorem dX5_canStand_59 : decode cX5_canStand 59 = .ok (.getfield 20, 3) := by decide +kernel
theorem dX5_canStand_62 : decode cX5_canStand 62 = .ok (.iload_n 1, 1) := by decide +kernel
theorem dX5_canStand_63 : decode cX5_canStand 63 = .ok (.iaload, 1) := by decide +kernel
theorem dX5_canStand_64 : decode cX5_canStand 64 = .ok (.aload_n 0, 1) := by decide +kernel
theorem dX5_canStand_65 : decode cX5_canStand 65 = .ok (.getfield 20, 3) := by decide +kernel
theorem dX5_canStand_68 : decode cX5_canStand 68 = .ok (.iload_n 1, 1) := by decide +kernel
theorem dX5_canStand_69 : decode cX5_canStand 69 = .ok (.iconst 1, 1) := by decide +kernel
theorem dX5_canStand_70 : decode cX5_canStand 70 = .ok (.isub, 1) := by decide +kernel
theorem dX5_canStand_71 : decode cX5_canStand 71 = .ok (.iaload, 1) := by decide +kernel
theorem dX5_canStand_72 : decode cX5_canStand 72 = .ok (.if_icmp .eq 7, 3) := by decide +kernel
theorem dX5_canStand_75 : decode cX5_canStand 75 = .ok (.iconst 1, 1) := by decide +kernel
theorem dX5_canStand_76 : decode cX5_canStand 76 = .ok (.goto 4, 3) := by decide +kernel
theorem dX5_canStand_79 : decode cX5_canStand 79 = .ok (.iconst 0, 1) := by decide +kernel
theorem dX5_canStand_80 : decode cX5_canStand 80 = .ok (.ireturn, 1) := by decide +kernel
theorem dX5_canStand_81 : decode cX5_canStand 81 = .ok (.aload_n 0, 1) := by decide +kernel
theorem dX5_canStand_82 : decode cX5_canStand 82 = .ok (.getfield 20, 3) := by decide +kernel
theorem dX5_canStand_85 : decode cX5_canStand 85 = .ok (.iload_n 1, 1) := by decide +kernel
theorem dX5_canStand_86 : decode cX5_canStand 86 = .ok (.iaload, 1) := by decide +kernel
theorem dX5_canStand_87 : decode cX5_canStand 87 = .ok (.bipush 49, 2) := by decide +kernel
theorem dX5_canStand_89 : decode cX5_canStand 89 = .ok (.bipush 54, 2) := by decide +kernel
theorem dX5_canStand_91 : decode cX5_canStand 91 = .ok (.invokestatic 50, 3) := by decide +kernel
theorem dX5_canStand_94 : decode cX5_canStand 94 = .ok (.ireturn, 1) := by decide +kernel
theorem dX5_canStand_95 : decode cX5_canStand 95 = .ok (.aload_n 0, 1) := by decide +kernel
theorem dX5_canStand_96 : decode cX5_canStand 96 = .ok (.getfield 20, 3) := by decide +kernel
theorem dX5_canStand_99 : decode cX5_canStand 99 = .ok (.iload_n 1, 1) := by decide +kernel
theorem dX5_canStand_100 : decode cX5_canStand 100 = .ok (.iaload, 1) := by decide +kernel
theorem dX5_canStand_101 : decode cX5_canStand 101 = .ok (.bipush 49, 2) := by decide +kernel
theorem dX5_canStand_103 : decode cX5_canStand 103 = .ok (.bipush 52, 2) := by decide +kernel
theorem dX5_canStand_105 : decode cX5_canStand 105 = .ok (.invokestatic 50, 3) := by decide +kernel
theorem dX5_canStand_108 : decode cX5_canStand 108 = .ok (.ireturn, 1) := by decide +kernel
theorem dX5_fault_0 : decode cX5_fault 0 = .ok (.iconst 0, 1) := by decide +kernel
theorem dX5_fault_1 : decode cX5_fault 1 = .ok (.istore_n 1, 1) := by decide +kernel
theorem dX5_fault_2 : decode cX5_fault 2 = .ok (.iload_n 1, 1) := by decide +kernel
theorem dX5_fault_3 : decode cX5_fault 3 = .ok (.aload_n 0, 1) := by decide +kernel
theorem dX5_fault_4 : decode cX5_fault 4 = .ok (.getfield 73, 3) := by decide +kernel
theorem dX5_fault_7 : decode cX5_fault 7 = .ok (.if_icmp .ge 19, 3) := by decide +kernel
theorem dX5_fault_10 : decode cX5_fault 10 = .ok (.aload_n 0, 1) := by decide +kernel
theorem dX5_fault_11 : decode cX5_fault 11 = .ok (.iload_n 1, 1) := by decide +kernel
theorem dX5_fault_12 : decode cX5_fault 12 = .ok (.invokevirtual 77, 3) := by decide +kernel
theorem dX5_fault_15 : decode cX5_fault 15 = .ok (.ifCond .ne 5, 3) := by decide +kernel
theorem dX5_fault_18 : decode cX5_fault 18 = .ok (.iload_n 1, 1) := by decide +kernel
theorem dX5_fault_19 : decode cX5_fault 19 = .ok (.ireturn, 1) := by decide +kernel
theorem dX5_fault_20 : decode cX5_fault 20 = .ok (.iinc 1 1, 3) := by decide +kernel
theorem dX5_fault_23 : decode cX5_fault 23 = .ok (.goto (-21), 3) := by decide +kernel
theorem dX5_fault_26 : decode cX5_fault 26 = .ok (.aload_n 0, 1) := by decide +kernel
theorem dX5_fault_27 : decode cX5_fault 27 = .ok (.getfield 73, 3) := by decide +kernel
theorem dX5_fault_30 : decode cX5_fault 30 = .ok (.iconst 4, 1) := by decide +kernel
theorem dX5_fault_31 : decode cX5_fault 31 = .ok (.irem, 1) := by decide +kernel
theorem dX5_fault_32 : decode cX5_fault 32 = .ok (.ifCond .ne 8, 3) := by decide +kernel
theorem dX5_fault_35 : decode cX5_fault 35 = .ok (.bipush (-6), 2) := by decide +kernel
theorem dX5_fault_37 : decode cX5_fault 37 = .ok (.goto 7, 3) := by decide +kernel
theorem dX5_fault_40 : decode cX5_fault 40 = .ok (.aload_n 0, 1) := by decide +kernel
theorem dX5_fault_41 : decode cX5_fault 41 = .ok (.getfield 73, 3) := by decide +kernel
theorem dX5_fault_44 : decode cX5_fault 44 = .ok (.ireturn, 1) := by decide +kernel
theorem dX5_read_0 : decode cX5_read 0 = .ok (.aload_n 0, 1) := by decide +kernel
theorem dX5_read_1 : decode cX5_read 1 = .ok (.invokevirtual 80, 3) := by decide +kernel
theorem dX5_read_4 : decode cX5_read 4 = .ok (.ifCond .lt 6, 3) := by decide +kernel
theorem dX5_read_7 : decode cX5_read 7 = .ok (.bipush (-7), 2) := by decide +kernel
theorem dX5_read_9 : decode cX5_read 9 = .ok (.ireturn, 1) := by decide +kernel
theorem dX5_read_10 : decode cX5_read 10 = .ok (.aload_n 0, 1) := by decide +kernel
theorem dX5_read_11 : decode cX5_read 11 = .ok (.invokevirtual 54, 3) := by decide +kernel
theorem dX5_read_14 : decode cX5_read 14 = .ok (.aload_n 0, 1) := by decide +kernel
theorem dX5_read_15 : decode cX5_read 15 = .ok (.getfield 73, 3) := by decide +kernel
theorem dX5_read_18 : decode cX5_read 18 = .ok (.iconst 4, 1) := by decide +kernel
theorem dX5_read_19 : decode cX5_read 19 = .ok (.idiv, 1) := by decide +kernel
theorem dX5_read_20 : decode cX5_read 20 = .ok (.iadd, 1) := by decide +kernel
theorem dX5_read_21 : decode cX5_read 21 = .ok (.bipush 10, 2) := by decide +kernel
theorem dX5_read_23 : decode cX5_read 23 = .ok (.if_icmp .le 6, 3) := by decide +kernel
theorem dX5_read_26 : decode cX5_read 26 = .ok (.bipush (-4), 2) := by decide +kernel
theorem dX5_read_28 : decode cX5_read 28 = .ok (.ireturn, 1) := by decide +kernel
theorem dX5_read_29 : decode cX5_read 29 = .ok (.iconst 0, 1) := by decide +kernel
theorem dX5_read_30 : decode cX5_read 30 = .ok (.istore_n 1, 1) := by decide +kernel
theorem dX5_read_31 : decode cX5_read 31 = .ok (.iload_n 1, 1) := by decide +kernel
theorem dX5_read_32 : decode cX5_read 32 = .ok (.aload_n 0, 1) := by decide +kernel
theorem dX5_read_33 : decode cX5_read 33 = .ok (.getfield 73, 3) := by decide +kernel
theorem dX5_read_36 : decode cX5_read 36 = .ok (.if_icmp .ge 56, 3) := by decide +kernel
theorem dX5_read_39 : decode cX5_read 39 = .ok (.aload_n 0, 1) := by decide +kernel
theorem dX5_read_40 : decode cX5_read 40 = .ok (.aload_n 0, 1) := by decide +kernel
theorem dX5_read_41 : decode cX5_read 41 = .ok (.getfield 20, 3) := by decide +kernel
theorem dX5_read_44 : decode cX5_read 44 = .ok (.iload_n 1, 1) := by decide +kernel
theorem dX5_read_45 : decode cX5_read 45 = .ok (.iaload, 1) := by decide +kernel
theorem dX5_read_46 : decode cX5_read 46 = .ok (.bipush 97, 2) := by decide +kernel
theorem dX5_read_48 : decode cX5_read 48 = .ok (.isub, 1) := by decide +kernel
theorem dX5_read_49 : decode cX5_read 49 = .ok (.aload_n 0, 1) := by decide +kernel
theorem dX5_read_50 : decode cX5_read 50 = .ok (.getfield 20, 3) := by decide +kernel
theorem dX5_read_53 : decode cX5_read 53 = .ok (.iload_n 1, 1) := by decide +kernel
theorem dX5_read_54 : decode cX5_read 54 = .ok (.iconst 1, 1) := by decide +kernel
theorem dX5_read_55 : decode cX5_read 55 = .ok (.iadd, 1) := by decide +kernel
theorem dX5_read_56 : decode cX5_read 56 = .ok (.iaload, 1) := by decide +kernel
theorem dX5_read_57 : decode cX5_read 57 = .ok (.bipush 97, 2) := by decide +kernel
theorem dX5_read_59 : decode cX5_read 59 = .ok (.isub, 1) := by decide +kernel
theorem dX5_read_60 : decode cX5_read 60 = .ok (.aload_n 0, 1) := by decide +kernel
theorem dX5_read_61 : decode cX5_read 61 = .ok (.getfield 20, 3) := by decide +kernel
theorem dX5_read_64 : decode cX5_read 64 = .ok (.iload_n 1, 1) := by decide +kernel
theorem dX5_read_65 : decode cX5_read 65 = .ok (.iconst 2, 1) := by decide +kernel
theorem dX5_read_66 : decode cX5_read 66 = .ok (.iadd, 1) := by decide +kernel
theorem dX5_read_67 : decode cX5_read 67 = .ok (.iaload, 1) := by decide +kernel
theorem dX5_read_68 : decode cX5_read 68 = .ok (.bipush 48, 2) := by decide +kernel
theorem dX5_read_70 : decode cX5_read 70 = .ok (.isub, 1) := by decide +kernel
theorem dX5_read_71 : decode cX5_read 71 = .ok (.aload_n 0, 1) := by decide +kernel
theorem dX5_read_72 : decode cX5_read 72 = .ok (.getfield 20, 3) := by decide +kernel
theorem dX5_read_75 : decode cX5_read 75 = .ok (.iload_n 1, 1) := by decide +kernel
theorem dX5_read_76 : decode cX5_read 76 = .ok (.iconst 3, 1) := by decide +kernel
theorem dX5_read_77 : decode cX5_read 77 = .ok (.iadd, 1) := by decide +kernel
theorem dX5_read_78 : decode cX5_read 78 = .ok (.iaload, 1) := by decide +kernel
theorem dX5_read_79 : decode cX5_read 79 = .ok (.bipush 48, 2) := by decide +kernel
theorem dX5_read_81 : decode cX5_read 81 = .ok (.isub, 1) := by decide +kernel
theorem dX5_read_82 : decode cX5_read 82 = .ok (.invokevirtual 62, 3) := by decide +kernel
theorem dX5_read_85 : decode cX5_read 85 = .ok (.pop, 1) := by decide +kernel
theorem dX5_read_86 : decode cX5_read 86 = .ok (.iinc 1 4, 3) := by decide +kernel
theorem dX5_read_89 : decode cX5_read 89 = .ok (.goto (-58), 3) := by decide +kernel
theorem dX5_read_92 : decode cX5_read 92 = .ok (.aload_n 0, 1) := by decide +kernel
theorem dX5_read_93 : decode cX5_read 93 = .ok (.iconst 0, 1) := by decide +kernel
theorem dX5_read_94 : decode cX5_read 94 = .ok (.putfield 73, 3) := by decide +kernel
theorem dX5_read_97 : decode cX5_read 97 = .ok (.aload_n 0, 1) := by decide +kernel
theorem dX5_read_98 : decode cX5_read 98 = .ok (.invokevirtual 54, 3) := by decide +kernel
theorem dX5_read_101 : decode cX5_read 101 = .ok (.ireturn, 1) := by decide +kernel
theorem dX5_crowd_0 : decode cX5_crowd 0 = .ok (.aload_n 0, 1) := by decide +kernel
theorem dX5_crowd_1 : decode cX5_crowd 1 = .ok (.getfield 7, 3) := by decide +kernel
theorem dX5_crowd_4 : decode cX5_crowd 4 = .ok (.iconst 0, 1) := by decide +kernel
theorem dX5_crowd_5 : decode cX5_crowd 5 = .ok (.iload_n 1, 1) := by decide +kernel
theorem dX5_crowd_6 : decode cX5_crowd 6 = .ok (.iadd, 1) := by decide +kernel
theorem dX5_crowd_7 : decode cX5_crowd 7 = .ok (.iaload, 1) := by decide +kernel
theorem dX5_crowd_8 : decode cX5_crowd 8 = .ok (.i2f, 1) := by decide +kernel
theorem dX5_crowd_9 : decode cX5_crowd 9 = .ok (.aload_n 0, 1) := by decide +kernel
theorem dX5_crowd_10 : decode cX5_crowd 10 = .ok (.getfield 7, 3) := by decide +kernel
theorem dX5_crowd_13 : decode cX5_crowd 13 = .ok (.bipush 6, 2) := by decide +kernel
theorem dX5_crowd_15 : decode cX5_crowd 15 = .ok (.iload_n 1, 1) := by decide +kernel
theorem dX5_crowd_16 : decode cX5_crowd 16 = .ok (.iadd, 1) := by decide +kernel
theorem dX5_crowd_17 : decode cX5_crowd 17 = .ok (.iaload, 1) := by decide +kernel
theorem dX5_crowd_18 : decode cX5_crowd 18 = .ok (.i2f, 1) := by decide +kernel
theorem dX5_crowd_19 : decode cX5_crowd 19 = .ok (.fdiv, 1) := by decide +kernel
theorem dX5_crowd_20 : decode cX5_crowd 20 = .ok (.freturn, 1) := by decide +kernel
theorem dX5_pace_0 : decode cX5_pace 0 = .ok (.ldc 83, 2) := by decide +kernel
theorem dX5_pace_2 : decode cX5_pace 2 = .ok (.aload_n 0, 1) := by decide +kernel
theorem dX5_pace_3 : decode cX5_pace 3 = .ok (.iload_n 1, 1) := by decide +kernel
theorem dX5_pace_4 : decode cX5_pace 4 = .ok (.invokevirtual 84, 3) := by decide +kernel
theorem dX5_pace_7 : decode cX5_pace 7 = .ok (.fmul, 1) := by decide +kernel
theorem dX5_pace_8 : decode cX5_pace 8 = .ok (.fstore_n 2, 1) := by decide +kernel
theorem dX5_pace_9 : decode cX5_pace 9 = .ok (.ldc 88, 2) := by decide +kernel
theorem dX5_pace_11 : decode cX5_pace 11 = .ok (.fload_n 2, 1) := by decide +kernel
theorem dX5_pace_12 : decode cX5_pace 12 = .ok (.fsub, 1) := by decide +kernel
theorem dX5_pace_13 : decode cX5_pace 13 = .ok (.fstore_n 3, 1) := by decide +kernel
theorem dX5_pace_14 : decode cX5_pace 14 = .ok (.fload_n 3, 1) := by decide +kernel
theorem dX5_pace_15 : decode cX5_pace 15 = .ok (.ldc 89, 2) := by decide +kernel
theorem dX5_pace_17 : decode cX5_pace 17 = .ok (.fcmp .g, 1) := by decide +kernel
theorem dX5_pace_18 : decode cX5_pace 18 = .ok (.ifCond .ge 8, 3) := by decide +kernel
theorem dX5_pace_21 : decode cX5_pace 21 = .ok (.ldc 89, 2) := by decide +kernel
theorem dX5_pace_23 : decode cX5_pace 23 = .ok (.goto 4, 3) := by decide +kernel
theorem dX5_pace_26 : decode cX5_pace 26 = .ok (.fload_n 3, 1) := by decide +kernel
theorem dX5_pace_27 : decode cX5_pace 27 = .ok (.freturn, 1) := by decide +kernel
theorem dX5_told_0 : decode cX5_told 0 = .ok (.iload_n 1, 1) := by decide +kernel
theorem dX5_told_1 : decode cX5_told 1 = .ok (.invokestatic 58, 3) := by decide +kernel
theorem dX5_told_4 : decode cX5_told 4 = .ok (.ifCond .ne 5, 3) := by decide +kernel
theorem dX5_told_7 : decode cX5_told 7 = .ok (.iconst (-1), 1) := by decide +kernel
theorem dX5_told_8 : decode cX5_told 8 = .ok (.ireturn, 1) := by decide +kernel
theorem dX5_told_9 : decode cX5_told 9 = .ok (.iload_n 2, 1) := by decide +kernel
theorem dX5_told_10 : decode cX5_told 10 = .ok (.tableswitch 64 0 4 #[34, 34, 34, 46, 55], 34) := by decide +kernel
theorem dX5_told_44 : decode cX5_told 44 = .ok (.aload_n 0, 1) := by decide +kernel
theorem dX5_told_45 : decode cX5_told 45 = .ok (.getfield 7, 3) := by decide +kernel
theorem dX5_told_48 : decode cX5_told 48 = .ok (.bipush 6, 2) := by decide +kernel
theorem dX5_told_50 : decode cX5_told 50 = .ok (.iload_n 2, 1) := by decide +kernel
theorem dX5_told_51 : decode cX5_told 51 = .ok (.imul, 1) := by decide +kernel
theorem dX5_told_52 : decode cX5_told 52 = .ok (.iload_n 1, 1) := by decide +kernel
theorem dX5_told_53 : decode cX5_told 53 = .ok (.iadd, 1) := by decide +kernel
theorem dX5_told_54 : decode cX5_told 54 = .ok (.iaload, 1) := by decide +kernel
theorem dX5_told_55 : decode cX5_told 55 = .ok (.ireturn, 1) := by decide +kernel
theorem dX5_told_56 : decode cX5_told 56 = .ok (.aload_n 0, 1) := by decide +kernel
theorem dX5_told_57 : decode cX5_told 57 = .ok (.iload_n 1, 1) := by decide +kernel
theorem dX5_told_58 : decode cX5_told 58 = .ok (.invokevirtual 84, 3) := by decide +kernel
theorem dX5_told_61 : decode cX5_told 61 = .ok (.invokestatic 90, 3) := by decide +kernel
theorem dX5_told_64 : decode cX5_told 64 = .ok (.ireturn, 1) := by decide +kernel
theorem dX5_told_65 : decode cX5_told 65 = .ok (.aload_n 0, 1) := by decide +kernel
theorem dX5_told_66 : decode cX5_told 66 = .ok (.iload_n 1, 1) := by decide +kernel
theorem dX5_told_67 : decode cX5_told 67 = .ok (.invokevirtual 96, 3) := by decide +kernel
theorem dX5_told_70 : decode cX5_told 70 = .ok (.invokestatic 90, 3) := by decide +kernel
theorem dX5_told_73 : decode cX5_told 73 = .ok (.ireturn, 1) := by decide +kernel
theorem dX5_told_74 : decode cX5_told 74 = .ok (.bipush (-2), 2) := by decide +kernel
theorem dX5_told_76 : decode cX5_told 76 = .ok (.ireturn, 1) := by decide +kernel
theorem dX5_of_0 : decode cX5_of 0 = .ok (.aload_n 0, 1) := by decide +kernel
theorem dX5_of_1 : decode cX5_of 1 = .ok (.iload_n 1, 1) := by decide +kernel
theorem dX5_of_2 : decode cX5_of 2 = .ok (.invokevirtual 66, 3) := by decide +kernel
theorem dX5_of_5 : decode cX5_of 5 = .ok (.ifCond .ne 5, 3) := by decide +kernel
theorem dX5_of_8 : decode cX5_of 8 = .ok (.iconst (-1), 1) := by decide +kernel
theorem dX5_of_9 : decode cX5_of 9 = .ok (.ireturn, 1) := by decide +kernel
theorem dX5_of_10 : decode cX5_of 10 = .ok (.iload_n 2, 1) := by decide +kernel
theorem dX5_of_11 : decode cX5_of 11 = .ok (.iconst 0, 1) := by decide +kernel
theorem dX5_of_12 : decode cX5_of 12 = .ok (.iconst 4, 1) := by decide +kernel
theorem dX5_of_13 : decode cX5_of 13 = .ok (.invokestatic 50, 3) := by decide +kernel
theorem dX5_of_16 : decode cX5_of 16 = .ok (.ifCond .ne 6, 3) := by decide +kernel
theorem dX5_of_19 : decode cX5_of 19 = .ok (.bipush (-2), 2) := by decide +kernel
theorem dX5_of_21 : decode cX5_of 21 = .ok (.ireturn, 1) := by decide +kernel
theorem dX5_of_22 : decode cX5_of 22 = .ok (.iload_n 2, 1) := by decide +kernel
theorem dX5_of_23 : decode cX5_of 23 = .ok (.iconst 4, 1) := by decide +kernel
theorem dX5_of_24 : decode cX5_of 24 = .ok (.if_icmp .ne 11, 3) := by decide +kernel
theorem dX5_of_27 : decode cX5_of 27 = .ok (.aload_n 0, 1) := by decide +kernel
theorem dX5_of_28 : decode cX5_of 28 = .ok (.iload_n 1, 1) := by decide +kernel
theorem dX5_of_29 : decode cX5_of 29 = .ok (.invokevirtual 69, 3) := by decide +kernel
theorem dX5_of_32 : decode cX5_of 32 = .ok (.goto 17, 3) := by decide +kernel
theorem dX5_of_35 : decode cX5_of 35 = .ok (.aload_n 0, 1) := by decide +kernel
theorem dX5_of_36 : decode cX5_of 36 = .ok (.getfield 7, 3) := by decide +kernel
theorem dX5_of_39 : decode cX5_of 39 = .ok (.bipush 18, 2) := by decide +kernel
theorem dX5_of_41 : decode cX5_of 41 = .ok (.bipush 10, 2) := by decide +kernel
theorem dX5_of_43 : decode cX5_of 43 = .ok (.iload_n 2, 1) := by decide +kernel
theorem dX5_of_44 : decode cX5_of 44 = .ok (.imul, 1) := by decide +kernel
theorem dX5_of_45 : decode cX5_of 45 = .ok (.iadd, 1) := by decide +kernel
theorem dX5_of_46 : decode cX5_of 46 = .ok (.iload_n 1, 1) := by decide +kernel
theorem dX5_of_47 : decode cX5_of 47 = .ok (.iadd, 1) := by decide +kernel
theorem dX5_of_48 : decode cX5_of 48 = .ok (.iaload, 1) := by decide +kernel
theorem dX5_of_49 : decode cX5_of 49 = .ok (.ireturn, 1) := by decide +kernel
theorem dX5_clearNet_0 : decode cX5_clearNet 0 = .ok (.aload_n 0, 1) := by decide +kernel
theorem dX5_clearNet_1 : decode cX5_clearNet 1 = .ok (.iload_n 1, 1) := by decide +kernel
theorem dX5_clearNet_2 : decode cX5_clearNet 2 = .ok (.putfield 99, 3) := by decide +kernel
theorem dX5_clearNet_5 : decode cX5_clearNet 5 = .ok (.iconst 0, 1) := by decide +kernel
theorem dX5_clearNet_6 : decode cX5_clearNet 6 = .ok (.istore_n 2, 1) := by decide +kernel
theorem dX5_clearNet_7 : decode cX5_clearNet 7 = .ok (.iload_n 2, 1) := by decide +kernel
theorem dX5_clearNet_8 : decode cX5_clearNet 8 = .ok (.sipush 610, 3) := by decide +kernel
theorem dX5_clearNet_11 : decode cX5_clearNet 11 = .ok (.if_icmp .ge 16, 3) := by decide +kernel
theorem dX5_clearNet_14 : decode cX5_clearNet 14 = .ok (.aload_n 0, 1) := by decide +kernel
theorem dX5_clearNet_15 : decode cX5_clearNet 15 = .ok (.getfield 23, 3) := by decide +kernel
theorem dX5_clearNet_18 : decode cX5_clearNet 18 = .ok (.iload_n 2, 1) := by decide +kernel
theorem dX5_clearNet_19 : decode cX5_clearNet 19 = .ok (.iconst 0, 1) := by decide +kernel
theorem dX5_clearNet_20 : decode cX5_clearNet 20 = .ok (.iastore, 1) := by decide +kernel
theorem dX5_clearNet_21 : decode cX5_clearNet 21 = .ok (.iinc 2 1, 3) := by decide +kernel
theorem dX5_clearNet_24 : decode cX5_clearNet 24 = .ok (.goto (-17), 3) := by decide +kernel
theorem dX5_clearNet_27 : decode cX5_clearNet 27 = .ok (.iconst 0, 1) := by decide +kernel
theorem dX5_clearNet_28 : decode cX5_clearNet 28 = .ok (.istore_n 2, 1) := by decide +kernel
theorem dX5_clearNet_29 : decode cX5_clearNet 29 = .ok (.iload_n 2, 1) := by decide +kernel
theorem dX5_clearNet_30 : decode cX5_clearNet 30 = .ok (.sipush 366, 3) := by decide +kernel
theorem dX5_clearNet_33 : decode cX5_clearNet 33 = .ok (.if_icmp .ge 16, 3) := by decide +kernel
theorem dX5_clearNet_36 : decode cX5_clearNet 36 = .ok (.aload_n 0, 1) := by decide +kernel
theorem dX5_clearNet_37 : decode cX5_clearNet 37 = .ok (.getfield 26, 3) := by decide +kernel
theorem dX5_clearNet_40 : decode cX5_clearNet 40 = .ok (.iload_n 2, 1) := by decide +kernel
theorem dX5_clearNet_41 : decode cX5_clearNet 41 = .ok (.iconst 0, 1) := by decide +kernel
theorem dX5_clearNet_42 : decode cX5_clearNet 42 = .ok (.iastore, 1) := by decide +kernel
theorem dX5_clearNet_43 : decode cX5_clearNet 43 = .ok (.iinc 2 1, 3) := by decide +kernel
theorem dX5_clearNet_46 : decode cX5_clearNet 46 = .ok (.goto (-17), 3) := by decide +kernel
theorem dX5_clearNet_49 : decode cX5_clearNet 49 = .ok (.iconst 0, 1) := by decide +kernel
theorem dX5_clearNet_50 : decode cX5_clearNet 50 = .ok (.istore_n 2, 1) := by decide +kernel
theorem dX5_clearNet_51 : decode cX5_clearNet 51 = .ok (.iload_n 2, 1) := by decide +kernel
theorem dX5_clearNet_52 : decode cX5_clearNet 52 = .ok (.bipush 6, 2) := by decide +kernel
theorem dX5_clearNet_54 : decode cX5_clearNet 54 = .ok (.if_icmp .ge 35, 3) := by decide +kernel
theorem dX5_clearNet_57 : decode cX5_clearNet 57 = .ok (.aload_n 0, 1) := by decide +kernel
theorem dX5_clearNet_58 : decode cX5_clearNet 58 = .ok (.getfield 29, 3) := by decide +kernel
theorem dX5_clearNet_61 : decode cX5_clearNet 61 = .ok (.iload_n 2, 1) := by decide +kernel
theorem dX5_clearNet_62 : decode cX5_clearNet 62 = .ok (.aload_n 0, 1) := by decide +kernel
theorem dX5_clearNet_63 : decode cX5_clearNet 63 = .ok (.iload_n 2, 1) := by decide +kernel
theorem dX5_clearNet_64 : decode cX5_clearNet 64 = .ok (.invokevirtual 102, 3) := by decide +kernel
theorem dX5_clearNet_67 : decode cX5_clearNet 67 = .ok (.ifCond .eq 7, 3) := by decide +kernel
theorem dX5_clearNet_70 : decode cX5_clearNet 70 = .ok (.iconst 0, 1) := by decide +kernel
theorem dX5_clearNet_71 : decode cX5_clearNet 71 = .ok (.goto 11, 3) := by decide +kernel
theorem dX5_clearNet_74 : decode cX5_clearNet 74 = .ok (.aload_n 0, 1) := by decide +kernel
theorem dX5_clearNet_75 : decode cX5_clearNet 75 = .ok (.getfield 7, 3) := by decide +kernel
theorem dX5_clearNet_78 : decode cX5_clearNet 78 = .ok (.iconst 0, 1) := by decide +kernel
theorem dX5_clearNet_79 : decode cX5_clearNet 79 = .ok (.iload_n 2, 1) := by decide +kernel
theorem dX5_clearNet_80 : decode cX5_clearNet 80 = .ok (.iadd, 1) := by decide +kernel
theorem dX5_clearNet_81 : decode cX5_clearNet 81 = .ok (.iaload, 1) := by decide +kernel
theorem dX5_clearNet_82 : decode cX5_clearNet 82 = .ok (.iastore, 1) := by decide +kernel
theorem dX5_clearNet_83 : decode cX5_clearNet 83 = .ok (.iinc 2 1, 3) := by decide +kernel
theorem dX5_clearNet_86 : decode cX5_clearNet 86 = .ok (.goto (-35), 3) := by decide +kernel
theorem dX5_clearNet_89 : decode cX5_clearNet 89 = .ok (.return_, 1) := by decide +kernel
theorem dX5_come_0 : decode cX5_come 0 = .ok (.aload_n 0, 1) := by decide +kernel
theorem dX5_come_1 : decode cX5_come 1 = .ok (.getfield 35, 3) := by decide +kernel
theorem dX5_come_4 : decode cX5_come 4 = .ok (.iload_n 1, 1) := by decide +kernel
theorem dX5_come_5 : decode cX5_come 5 = .ok (.iaload, 1) := by decide +kernel
theorem dX5_come_6 : decode cX5_come 6 = .ok (.bipush (-6), 2) := by decide +kernel
theorem dX5_come_8 : decode cX5_come 8 = .ok (.if_icmp .ne 37, 3) := by decide +kernel
theorem dX5_come_11 : decode cX5_come 11 = .ok (.aload_n 0, 1) := by decide +kernel
theorem dX5_come_12 : decode cX5_come 12 = .ok (.getfield 32, 3) := by decide +kernel
theorem dX5_come_15 : decode cX5_come 15 = .ok (.iload_n 1, 1) := by decide +kernel
theorem dX5_come_16 : decode cX5_come 16 = .ok (.iload_n 2, 1) := by decide +kernel
theorem dX5_come_17 : decode cX5_come 17 = .ok (.iastore, 1) := by decide +kernel
theorem dX5_come_18 : decode cX5_come 18 = .ok (.aload_n 0, 1) := by decide +kernel
theorem dX5_come_19 : decode cX5_come 19 = .ok (.getfield 35, 3) := by decide +kernel
theorem dX5_come_22 : decode cX5_come 22 = .ok (.iload_n 1, 1) := by decide +kernel
theorem dX5_come_23 : decode cX5_come 23 = .ok (.iload_n 3, 1) := by decide +kernel
theorem dX5_come_24 : decode cX5_come 24 = .ok (.iastore, 1) := by decide +kernel
theorem dX5_come_25 : decode cX5_come 25 = .ok (.aload_n 0, 1) := by decide +kernel
theorem dX5_come_26 : decode cX5_come 26 = .ok (.getfield 38, 3) := by decide +kernel
theorem dX5_come_29 : decode cX5_come 29 = .ok (.aload_n 0, 1) := by decide +kernel
theorem dX5_come_30 : decode cX5_come 30 = .ok (.getfield 105, 3) := by decide +kernel
theorem dX5_come_33 : decode cX5_come 33 = .ok (.iload_n 1, 1) := by decide +kernel
theorem dX5_come_34 : decode cX5_come 34 = .ok (.iastore, 1) := by decide +kernel
theorem dX5_come_35 : decode cX5_come 35 = .ok (.aload_n 0, 1) := by decide +kernel
theorem dX5_come_36 : decode cX5_come 36 = .ok (.dup, 1) := by decide +kernel
theorem dX5_come_37 : decode cX5_come 37 = .ok (.getfield 105, 3) := by decide +kernel
theorem dX5_come_40 : decode cX5_come 40 = .ok (.iconst 1, 1) := by decide +kernel
theorem dX5_come_41 : decode cX5_come 41 = .ok (.iadd, 1) := by decide +kernel
theorem dX5_come_42 : decode cX5_come 42 = .ok (.putfield 105, 3) := by decide +kernel
theorem dX5_come_45 : decode cX5_come 45 = .ok (.return_, 1) := by decide +kernel
theorem dX5_beginWave_0 : decode cX5_beginWave 0 = .ok (.aload_n 0, 1) := by decide +kernel
theorem dX5_beginWave_1 : decode cX5_beginWave 1 = .ok (.iconst 0, 1) := by decide +kernel
theorem dX5_beginWave_2 : decode cX5_beginWave 2 = .ok (.putfield 105, 3) := by decide +kernel
theorem dX5_beginWave_5 : decode cX5_beginWave 5 = .ok (.aload_n 0, 1) := by decide +kernel
theorem dX5_beginWave_6 : decode cX5_beginWave 6 = .ok (.bipush (-6), 2) := by decide +kernel
theorem dX5_beginWave_8 : decode cX5_beginWave 8 = .ok (.putfield 108, 3) := by decide +kernel
theorem dX5_beginWave_11 : decode cX5_beginWave 11 = .ok (.iconst 0, 1) := by decide +kernel
theorem dX5_beginWave_12 : decode cX5_beginWave 12 = .ok (.istore_n 1, 1) := by decide +kernel
theorem dX5_beginWave_13 : decode cX5_beginWave 13 = .ok (.iload_n 1, 1) := by decide +kernel
theorem dX5_beginWave_14 : decode cX5_beginWave 14 = .ok (.sipush 366, 3) := by decide +kernel
theorem dX5_beginWave_17 : decode cX5_beginWave 17 = .ok (.if_icmp .ge 17, 3) := by decide +kernel
theorem dX5_beginWave_20 : decode cX5_beginWave 20 = .ok (.aload_n 0, 1) := by decide +kernel
theorem dX5_beginWave_21 : decode cX5_beginWave 21 = .ok (.getfield 35, 3) := by decide +kernel
theorem dX5_beginWave_24 : decode cX5_beginWave 24 = .ok (.iload_n 1, 1) := by decide +kernel
theorem dX5_beginWave_25 : decode cX5_beginWave 25 = .ok (.bipush (-6), 2) := by decide +kernel
theorem dX5_beginWave_27 : decode cX5_beginWave 27 = .ok (.iastore, 1) := by decide +kernel
theorem dX5_beginWave_28 : decode cX5_beginWave 28 = .ok (.iinc 1 1, 3) := by decide +kernel
theorem dX5_beginWave_31 : decode cX5_beginWave 31 = .ok (.goto (-18), 3) := by decide +kernel
theorem dX5_beginWave_34 : decode cX5_beginWave 34 = .ok (.iconst 0, 1) := by decide +kernel
theorem dX5_beginWave_35 : decode cX5_beginWave 35 = .ok (.istore_n 1, 1) := by decide +kernel
theorem dX5_beginWave_36 : decode cX5_beginWave 36 = .ok (.iload_n 1, 1) := by decide +kernel
theorem dX5_beginWave_37 : decode cX5_beginWave 37 = .ok (.bipush 6, 2) := by decide +kernel
theorem dX5_beginWave_39 : decode cX5_beginWave 39 = .ok (.if_icmp .ge 29, 3) := by decide +kernel
theorem dX5_beginWave_42 : decode cX5_beginWave 42 = .ok (.aload_n 0, 1) := by decide +kernel
theorem dX5_beginWave_43 : decode cX5_beginWave 43 = .ok (.getfield 29, 3) := by decide +kernel
theorem dX5_beginWave_46 : decode cX5_beginWave 46 = .ok (.iload_n 1, 1) := by decide +kernel
theorem dX5_beginWave_47 : decode cX5_beginWave 47 = .ok (.iaload, 1) := by decide +kernel
theorem dX5_beginWave_48 : decode cX5_beginWave 48 = .ok (.ifCond .le 14, 3) := by decide +kernel
theorem dX5_beginWave_51 : decode cX5_beginWave 51 = .ok (.aload_n 0, 1) := by decide +kernel
theorem dX5_beginWave_52 : decode cX5_beginWave 52 = .ok (.bipush 61, 2) := by decide +kernel
theorem dX5_beginWave_54 : decode cX5_beginWave 54 = .ok (.iload_n 1, 1) := by decide +kernel
theorem dX5_beginWave_55 : decode cX5_beginWave 55 = .ok (.imul, 1) := by decide +kernel
theorem dX5_beginWave_56 : decode cX5_beginWave 56 = .ok (.bipush (-6), 2) := by decide +kernel
theorem dX5_beginWave_58 : decode cX5_beginWave 58 = .ok (.iconst 0, 1) := by decide +kernel
theorem dX5_beginWave_59 : decode cX5_beginWave 59 = .ok (.invokevirtual 111, 3) := by decide +kernel
theorem dX5_beginWave_62 : decode cX5_beginWave 62 = .ok (.iinc 1 1, 3) := by decide +kernel
theorem dX5_beginWave_65 : decode cX5_beginWave 65 = .ok (.goto (-29), 3) := by decide +kernel
theorem dX5_beginWave_68 : decode cX5_beginWave 68 = .ok (.return_, 1) := by decide +kernel
theorem dX5_canGo_0 : decode cX5_canGo 0 = .ok (.iload_n 2, 1) := by decide +kernel
theorem dX5_canGo_1 : decode cX5_canGo 1 = .ok (.aload_n 0, 1) := by decide +kernel
theorem dX5_canGo_2 : decode cX5_canGo 2 = .ok (.getfield 7, 3) := by decide +kernel
theorem dX5_canGo_5 : decode cX5_canGo 5 = .ok (.bipush 58, 2) := by decide +kernel
theorem dX5_canGo_7 : decode cX5_canGo 7 = .ok (.iload_n 1, 1) := by decide +kernel
theorem dX5_canGo_8 : decode cX5_canGo 8 = .ok (.iadd, 1) := by decide +kernel
theorem dX5_canGo_9 : decode cX5_canGo 9 = .ok (.iaload, 1) := by decide +kernel
theorem dX5_canGo_10 : decode cX5_canGo 10 = .ok (.if_icmp .ge 48, 3) := by decide +kernel
theorem dX5_canGo_13 : decode cX5_canGo 13 = .ok (.aload_n 0, 1) := by decide +kernel
theorem dX5_canGo_14 : decode cX5_canGo 14 = .ok (.getfield 23, 3) := by decide +kernel
theorem dX5_canGo_17 : decode cX5_canGo 17 = .ok (.bipush 61, 2) := by decide +kernel
theorem dX5_canGo_19 : decode cX5_canGo 19 = .ok (.iload_n 1, 1) := by decide +kernel
theorem dX5_canGo_20 : decode cX5_canGo 20 = .ok (.imul, 1) := by decide +kernel
theorem dX5_canGo_21 : decode cX5_canGo 21 = .ok (.iload_n 2, 1) := by decide +kernel
theorem dX5_canGo_22 : decode cX5_canGo 22 = .ok (.iadd, 1) := by decide +kernel
theorem dX5_canGo_23 : decode cX5_canGo 23 = .ok (.iaload, 1) := by decide +kernel
theorem dX5_canGo_24 : decode cX5_canGo 24 = .ok (.aload_n 0, 1) := by decide +kernel
theorem dX5_canGo_25 : decode cX5_canGo 25 = .ok (.getfield 7, 3) := by decide +kernel
theorem dX5_canGo_28 : decode cX5_canGo 28 = .ok (.bipush 38, 2) := by decide +kernel
theorem dX5_canGo_30 : decode cX5_canGo 30 = .ok (.iload_n 1, 1) := by decide +kernel
theorem dX5_canGo_31 : decode cX5_canGo 31 = .ok (.iadd, 1) := by decide +kernel
theorem dX5_canGo_32 : decode cX5_canGo 32 = .ok (.iaload, 1) := by decide +kernel
theorem dX5_canGo_33 : decode cX5_canGo 33 = .ok (.if_icmp .ge 25, 3) := by decide +kernel
theorem dX5_canGo_36 : decode cX5_canGo 36 = .ok (.iload_n 2, 1) := by decide +kernel
theorem dX5_canGo_37 : decode cX5_canGo 37 = .ok (.aload_n 0, 1) := by decide +kernel
theorem dX5_canGo_38 : decode cX5_canGo 38 = .ok (.getfield 7, 3) := by decide +kernel
theorem dX5_canGo_41 : decode cX5_canGo 41 = .ok (.bipush 48, 2) := by decide +kernel
theorem dX5_canGo_43 : decode cX5_canGo 43 = .ok (.iload_n 1, 1) := by decide +kernel
theorem dX5_canGo_44 : decode cX5_canGo 44 = .ok (.iadd, 1) := by decide +kernel
theorem dX5_canGo_45 : decode cX5_canGo 45 = .ok (.iaload, 1) := by decide +kernel
theorem dX5_canGo_46 : decode cX5_canGo 46 = .ok (.iadd, 1) := by decide +kernel
theorem dX5_canGo_47 : decode cX5_canGo 47 = .ok (.aload_n 0, 1) := by decide +kernel
theorem dX5_canGo_48 : decode cX5_canGo 48 = .ok (.getfield 99, 3) := by decide +kernel
theorem dX5_canGo_51 : decode cX5_canGo 51 = .ok (.if_icmp .gt 7, 3) := by decide +kernel
theorem dX5_canGo_54 : decode cX5_canGo 54 = .ok (.iconst 1, 1) := by decide +kernel
theorem dX5_canGo_55 : decode cX5_canGo 55 = .ok (.goto 4, 3) := by decide +kernel
theorem dX5_canGo_58 : decode cX5_canGo 58 = .ok (.iconst 0, 1) := by decide +kernel
theorem dX5_canGo_59 : decode cX5_canGo 59 = .ok (.ireturn, 1) := by decide +kernel
theorem dX5_byPassage_0 : decode cX5_byPassage 0 = .ok (.iload_n 2, 1) := by decide +kernel
theorem dX5_byPassage_1 : decode cX5_byPassage 1 = .ok (.bipush 61, 2) := by decide +kernel
theorem dX5_byPassage_3 : decode cX5_byPassage 3 = .ok (.idiv, 1) := by decide +kernel
theorem dX5_byPassage_4 : decode cX5_byPassage 4 = .ok (.istore_n 3, 1) := by decide +kernel
theorem dX5_byPassage_5 : decode cX5_byPassage 5 = .ok (.iload_n 2, 1) := by decide +kernel
theorem dX5_byPassage_6 : decode cX5_byPassage 6 = .ok (.bipush 61, 2) := by decide +kernel
theorem dX5_byPassage_8 : decode cX5_byPassage 8 = .ok (.irem, 1) := by decide +kernel
theorem dX5_byPassage_9 : decode cX5_byPassage 9 = .ok (.istore 4, 2) := by decide +kernel
theorem dX5_byPassage_11 : decode cX5_byPassage 11 = .ok (.aload_n 0, 1) := by decide +kernel
theorem dX5_byPassage_12 : decode cX5_byPassage 12 = .ok (.getfield 7, 3) := by decide +kernel
theorem dX5_byPassage_15 : decode cX5_byPassage 15 = .ok (.bipush 18, 2) := by decide +kernel
theorem dX5_byPassage_17 : decode cX5_byPassage 17 = .ok (.iload_n 1, 1) := by decide +kernel
theorem dX5_byPassage_18 : decode cX5_byPassage 18 = .ok (.iadd, 1) := by decide +kernel
theorem dX5_byPassage_19 : decode cX5_byPassage 19 = .ok (.iaload, 1) := by decide +kernel
theorem dX5_byPassage_20 : decode cX5_byPassage 20 = .ok (.iload_n 3, 1) := by decide +kernel
theorem dX5_byPassage_21 : decode cX5_byPassage 21 = .ok (.if_icmp .ne 76, 3) := by decide +kernel
theorem dX5_byPassage_24 : decode cX5_byPassage 24 = .ok (.aload_n 0, 1) := by decide +kernel
theorem dX5_byPassage_25 : decode cX5_byPassage 25 = .ok (.iload_n 1, 1) := by decide +kernel
theorem dX5_byPassage_26 : decode cX5_byPassage 26 = .ok (.iload 4, 2) := by decide +kernel
theorem dX5_byPassage_28 : decode cX5_byPassage 28 = .ok (.invokevirtual 115, 3) := by decide +kernel
theorem dX5_byPassage_31 : decode cX5_byPassage 31 = .ok (.ifCond .eq 66, 3) := by decide +kernel
theorem dX5_byPassage_34 : decode cX5_byPassage 34 = .ok (.aload_n 0, 1) := by decide +kernel
theorem dX5_byPassage_35 : decode cX5_byPassage 35 = .ok (.aload_n 0, 1) := by decide +kernel
theorem dX5_byPassage_36 : decode cX5_byPassage 36 = .ok (.getfield 7, 3) := by decide +kernel
theorem dX5_byPassage_39 : decode cX5_byPassage 39 = .ok (.bipush 28, 2) := by decide +kernel
theorem dX5_byPassage_41 : decode cX5_byPassage 41 = .ok (.iload_n 1, 1) := by decide +kernel
theorem dX5_byPassage_42 : decode cX5_byPassage 42 = .ok (.iadd, 1) := by decide +kernel
theorem dX5_byPassage_43 : decode cX5_byPassage 43 = .ok (.iaload, 1) := by decide +kernel
theorem dX5_byPassage_44 : decode cX5_byPassage 44 = .ok (.invokevirtual 102, 3) := by decide +kernel
theorem dX5_byPassage_47 : decode cX5_byPassage 47 = .ok (.ifCond .eq 16, 3) := by decide +kernel
theorem dX5_byPassage_50 : decode cX5_byPassage 50 = .ok (.aload_n 0, 1) := by decide +kernel
theorem dX5_byPassage_51 : decode cX5_byPassage 51 = .ok (.iload_n 2, 1) := by decide +kernel
theorem dX5_byPassage_52 : decode cX5_byPassage 52 = .ok (.putfield 108, 3) := by decide +kernel
theorem dX5_byPassage_55 : decode cX5_byPassage 55 = .ok (.aload_n 0, 1) := by decide +kernel
theorem dX5_byPassage_56 : decode cX5_byPassage 56 = .ok (.iload_n 1, 1) := by decide +kernel
theorem dX5_byPassage_57 : decode cX5_byPassage 57 = .ok (.putfield 119, 3) := by decide +kernel
theorem dX5_byPassage_60 : decode cX5_byPassage 60 = .ok (.goto 37, 3) := by decide +kernel
theorem dX5_byPassage_63 : decode cX5_byPassage 63 = .ok (.aload_n 0, 1) := by decide +kernel
theorem dX5_byPassage_64 : decode cX5_byPassage 64 = .ok (.bipush 61, 2) := by decide +kernel
theorem dX5_byPassage_66 : decode cX5_byPassage 66 = .ok (.aload_n 0, 1) := by decide +kernel
theorem dX5_byPassage_67 : decode cX5_byPassage 67 = .ok (.getfield 7, 3) := by decide +kernel
theorem dX5_byPassage_70 : decode cX5_byPassage 70 = .ok (.bipush 28, 2) := by decide +kernel
theorem dX5_byPassage_72 : decode cX5_byPassage 72 = .ok (.iload_n 1, 1) := by decide +kernel
theorem dX5_byPassage_73 : decode cX5_byPassage 73 = .ok (.iadd, 1) := by decide +kernel
theorem dX5_byPassage_74 : decode cX5_byPassage 74 = .ok (.iaload, 1) := by decide +kernel
theorem dX5_byPassage_75 : decode cX5_byPassage 75 = .ok (.imul, 1) := by decide +kernel
theorem dX5_byPassage_76 : decode cX5_byPassage 76 = .ok (.iload 4, 2) := by decide +kernel
theorem dX5_byPassage_78 : decode cX5_byPassage 78 = .ok (.iadd, 1) := by decide +kernel
theorem dX5_byPassage_79 : decode cX5_byPassage 79 = .ok (.aload_n 0, 1) := by decide +kernel
theorem dX5_byPassage_80 : decode cX5_byPassage 80 = .ok (.getfield 7, 3) := by decide +kernel
theorem dX5_byPassage_83 : decode cX5_byPassage 83 = .ok (.bipush 48, 2) := by decide +kernel
theorem dX5_byPassage_85 : decode cX5_byPassage 85 = .ok (.iload_n 1, 1) := by decide +kernel
theorem dX5_byPassage_86 : decode cX5_byPassage 86 = .ok (.iadd, 1) := by decide +kernel
theorem dX5_byPassage_87 : decode cX5_byPassage 87 = .ok (.iaload, 1) := by decide +kernel
theorem dX5_byPassage_88 : decode cX5_byPassage 88 = .ok (.iadd, 1) := by decide +kernel
theorem dX5_byPassage_89 : decode cX5_byPassage 89 = .ok (.iload_n 2, 1) := by decide +kernel
theorem dX5_byPassage_90 : decode cX5_byPassage 90 = .ok (.bipush 10, 2) := by decide +kernel
theorem dX5_byPassage_92 : decode cX5_byPassage 92 = .ok (.iload_n 1, 1) := by decide +kernel
theorem dX5_byPassage_93 : decode cX5_byPassage 93 = .ok (.iadd, 1) := by decide +kernel
theorem dX5_byPassage_94 : decode cX5_byPassage 94 = .ok (.invokevirtual 111, 3) := by decide +kernel
theorem dX5_byPassage_97 : decode cX5_byPassage 97 = .ok (.iload 4, 2) := by decide +kernel
theorem dX5_byPassage_99 : decode cX5_byPassage 99 = .ok (.aload_n 0, 1) := by decide +kernel
theorem dX5_byPassage_100 : decode cX5_byPassage 100 = .ok (.getfield 7, 3) := by decide +kernel
theorem dX5_byPassage_103 : decode cX5_byPassage 103 = .ok (.bipush 48, 2) := by decide +kernel
theorem dX5_byPassage_105 : decode cX5_byPassage 105 = .ok (.iload_n 1, 1) := by decide +kernel
theorem dX5_byPassage_106 : decode cX5_byPassage 106 = .ok (.iadd, 1) := by decide +kernel
theorem dX5_byPassage_107 : decode cX5_byPassage 107 = .ok (.iaload, 1) := by decide +kernel
theorem dX5_byPassage_108 : decode cX5_byPassage 108 = .ok (.isub, 1) := by decide +kernel
theorem dX5_byPassage_109 : decode cX5_byPassage 109 = .ok (.istore 5, 2) := by decide +kernel
theorem dX5_byPassage_111 : decode cX5_byPassage 111 = .ok (.aload_n 0, 1) := by decide +kernel
theorem dX5_byPassage_112 : decode cX5_byPassage 112 = .ok (.getfield 7, 3) := by decide +kernel
theorem dX5_byPassage_115 : decode cX5_byPassage 115 = .ok (.bipush 28, 2) := by decide +kernel
theorem dX5_byPassage_117 : decode cX5_byPassage 117 = .ok (.iload_n 1, 1) := by decide +kernel
theorem dX5_byPassage_118 : decode cX5_byPassage 118 = .ok (.iadd, 1) := by decide +kernel
theorem dX5_byPassage_119 : decode cX5_byPassage 119 = .ok (.iaload, 1) := by decide +kernel
theorem dX5_byPassage_120 : decode cX5_byPassage 120 = .ok (.iload_n 3, 1) := by decide +kernel
theorem dX5_byPassage_121 : decode cX5_byPassage 121 = .ok (.if_icmp .ne 47, 3) := by decide +kernel
theorem dX5_byPassage_124 : decode cX5_byPassage 124 = .ok (.iload 5, 2) := by decide +kernel
theorem dX5_byPassage_126 : decode cX5_byPassage 126 = .ok (.ifCond .lt 42, 3) := by decide +kernel
theorem dX5_byPassage_129 : decode cX5_byPassage 129 = .ok (.aload_n 0, 1) := by decide +kernel
theorem dX5_byPassage_130 : decode cX5_byPassage 130 = .ok (.getfield 23, 3) := by decide +kernel
theorem dX5_byPassage_133 : decode cX5_byPassage 133 = .ok (.bipush 61, 2) := by decide +kernel
theorem dX5_byPassage_135 : decode cX5_byPassage 135 = .ok (.iload_n 1, 1) := by decide +kernel
theorem dX5_byPassage_136 : decode cX5_byPassage 136 = .ok (.imul, 1) := by decide +kernel
theorem dX5_byPassage_137 : decode cX5_byPassage 137 = .ok (.iload 5, 2) := by decide +kernel
theorem dX5_byPassage_139 : decode cX5_byPassage 139 = .ok (.iadd, 1) := by decide +kernel
theorem dX5_byPassage_140 : decode cX5_byPassage 140 = .ok (.iaload, 1) := by decide +kernel
theorem dX5_byPassage_141 : decode cX5_byPassage 141 = .ok (.ifCond .le 27, 3) := by decide +kernel
theorem dX5_byPassage_144 : decode cX5_byPassage 144 = .ok (.aload_n 0, 1) := by decide +kernel
theorem dX5_byPassage_145 : decode cX5_byPassage 145 = .ok (.bipush 61, 2) := by decide +kernel
theorem dX5_byPassage_147 : decode cX5_byPassage 147 = .ok (.aload_n 0, 1) := by decide +kernel
theorem dX5_byPassage_148 : decode cX5_byPassage 148 = .ok (.getfield 7, 3) := by decide +kernel
theorem dX5_byPassage_151 : decode cX5_byPassage 151 = .ok (.bipush 18, 2) := by decide +kernel
theorem dX5_byPassage_153 : decode cX5_byPassage 153 = .ok (.iload_n 1, 1) := by decide +kernel
theorem dX5_byPassage_154 : decode cX5_byPassage 154 = .ok (.iadd, 1) := by decide +kernel
theorem dX5_byPassage_155 : decode cX5_byPassage 155 = .ok (.iaload, 1) := by decide +kernel
theorem dX5_byPassage_156 : decode cX5_byPassage 156 = .ok (.imul, 1) := by decide +kernel
theorem dX5_byPassage_157 : decode cX5_byPassage 157 = .ok (.iload 5, 2) := by decide +kernel
theorem dX5_byPassage_159 : decode cX5_byPassage 159 = .ok (.iadd, 1) := by decide +kernel
theorem dX5_byPassage_160 : decode cX5_byPassage 160 = .ok (.iload_n 2, 1) := by decide +kernel
theorem dX5_byPassage_161 : decode cX5_byPassage 161 = .ok (.bipush 30, 2) := by decide +kernel
theorem dX5_byPassage_163 : decode cX5_byPassage 163 = .ok (.iload_n 1, 1) := by decide +kernel
theorem dX5_byPassage_164 : decode cX5_byPassage 164 = .ok (.iadd, 1) := by decide +kernel
theorem dX5_byPassage_165 : decode cX5_byPassage 165 = .ok (.invokevirtual 111, 3) := by decide +kernel
theorem dX5_byPassage_168 : decode cX5_byPassage 168 = .ok (.return_, 1) := by decide +kernel
theorem dX5_findWay_0 : decode cX5_findWay 0 = .ok (.aload_n 0, 1) := by decide +kernel
theorem dX5_findWay_1 : decode cX5_findWay 1 = .ok (.invokevirtual 122, 3) := by decide +kernel
theorem dX5_findWay_4 : decode cX5_findWay 4 = .ok (.iconst 0, 1) := by decide +kernel
theorem dX5_findWay_5 : decode cX5_findWay 5 = .ok (.istore_n 1, 1) := by decide +kernel
theorem dX5_findWay_6 : decode cX5_findWay 6 = .ok (.iload_n 1, 1) := by decide +kernel
theorem dX5_findWay_7 : decode cX5_findWay 7 = .ok (.aload_n 0, 1) := by decide +kernel
theorem dX5_findWay_8 : decode cX5_findWay 8 = .ok (.getfield 105, 3) := by decide +kernel
theorem dX5_findWay_11 : decode cX5_findWay 11 = .ok (.if_icmp .ge 99, 3) := by decide +kernel
theorem dX5_findWay_14 : decode cX5_findWay 14 = .ok (.aload_n 0, 1) := by decide +kernel
theorem dX5_findWay_15 : decode cX5_findWay 15 = .ok (.getfield 108, 3) := by decide +kernel
theorem dX5_findWay_18 : decode cX5_findWay 18 = .ok (.ifCond .ge 92, 3) := by decide +kernel
theorem dX5_findWay_21 : decode cX5_findWay 21 = .ok (.aload_n 0, 1) := by decide +kernel
theorem dX5_findWay_22 : decode cX5_findWay 22 = .ok (.getfield 38, 3) := by decide +kernel
theorem dX5_findWay_25 : decode cX5_findWay 25 = .ok (.iload_n 1, 1) := by decide +kernel
theorem dX5_findWay_26 : decode cX5_findWay 26 = .ok (.iaload, 1) := by decide +kernel
theorem dX5_findWay_27 : decode cX5_findWay 27 = .ok (.istore_n 2, 1) := by decide +kernel
theorem dX5_findWay_28 : decode cX5_findWay 28 = .ok (.iconst 0, 1) := by decide +kernel
theorem dX5_findWay_29 : decode cX5_findWay 29 = .ok (.istore_n 3, 1) := by decide +kernel
theorem dX5_findWay_30 : decode cX5_findWay 30 = .ok (.iload_n 3, 1) := by decide +kernel
theorem dX5_findWay_31 : decode cX5_findWay 31 = .ok (.aload_n 0, 1) := by decide +kernel
theorem dX5_findWay_32 : decode cX5_findWay 32 = .ok (.invokevirtual 54, 3) := by decide +kernel
theorem dX5_findWay_35 : decode cX5_findWay 35 = .ok (.if_icmp .ge 22, 3) := by decide +kernel
theorem dX5_findWay_38 : decode cX5_findWay 38 = .ok (.aload_n 0, 1) := by decide +kernel
theorem dX5_findWay_39 : decode cX5_findWay 39 = .ok (.getfield 108, 3) := by decide +kernel
theorem dX5_findWay_42 : decode cX5_findWay 42 = .ok (.ifCond .ge 15, 3) := by decide +kernel
theorem dX5_findWay_45 : decode cX5_findWay 45 = .ok (.aload_n 0, 1) := by decide +kernel
theorem dX5_findWay_46 : decode cX5_findWay 46 = .ok (.iload_n 3, 1) := by decide +kernel
theorem dX5_findWay_47 : decode cX5_findWay 47 = .ok (.iload_n 2, 1) := by decide +kernel
theorem dX5_findWay_48 : decode cX5_findWay 48 = .ok (.invokevirtual 125, 3) := by decide +kernel
theorem dX5_findWay_51 : decode cX5_findWay 51 = .ok (.iinc 3 1, 3) := by decide +kernel
theorem dX5_findWay_54 : decode cX5_findWay 54 = .ok (.goto (-24), 3) := by decide +kernel
theorem dX5_findWay_57 : decode cX5_findWay 57 = .ok (.iload_n 2, 1) := by decide +kernel
theorem dX5_findWay_58 : decode cX5_findWay 58 = .ok (.bipush 61, 2) := by decide +kernel
theorem dX5_findWay_60 : decode cX5_findWay 60 = .ok (.irem, 1) := by decide +kernel
theorem dX5_findWay_61 : decode cX5_findWay 61 = .ok (.aload_n 0, 1) := by decide +kernel
theorem dX5_findWay_62 : decode cX5_findWay 62 = .ok (.getfield 99, 3) := by decide +kernel
theorem dX5_findWay_65 : decode cX5_findWay 65 = .ok (.if_icmp .ge 12, 3) := by decide +kernel
theorem dX5_findWay_68 : decode cX5_findWay 68 = .ok (.aload_n 0, 1) := by decide +kernel
theorem dX5_findWay_69 : decode cX5_findWay 69 = .ok (.iload_n 2, 1) := by decide +kernel
theorem dX5_findWay_70 : decode cX5_findWay 70 = .ok (.iconst 1, 1) := by decide +kernel
theorem dX5_findWay_71 : decode cX5_findWay 71 = .ok (.iadd, 1) := by decide +kernel
theorem dX5_findWay_72 : decode cX5_findWay 72 = .ok (.iload_n 2, 1) := by decide +kernel
theorem dX5_findWay_73 : decode cX5_findWay 73 = .ok (.iconst 1, 1) := by decide +kernel
theorem dX5_findWay_74 : decode cX5_findWay 74 = .ok (.invokevirtual 111, 3) := by decide +kernel
theorem dX5_findWay_77 : decode cX5_findWay 77 = .ok (.iload_n 2, 1) := by decide +kernel
theorem dX5_findWay_78 : decode cX5_findWay 78 = .ok (.bipush 61, 2) := by decide +kernel
theorem dX5_findWay_80 : decode cX5_findWay 80 = .ok (.irem, 1) := by decide +kernel
theorem dX5_findWay_81 : decode cX5_findWay 81 = .ok (.ifCond .le 23, 3) := by decide +kernel
theorem dX5_findWay_84 : decode cX5_findWay 84 = .ok (.aload_n 0, 1) := by decide +kernel
theorem dX5_findWay_85 : decode cX5_findWay 85 = .ok (.getfield 26, 3) := by decide +kernel
theorem dX5_findWay_88 : decode cX5_findWay 88 = .ok (.iload_n 2, 1) := by decide +kernel
theorem dX5_findWay_89 : decode cX5_findWay 89 = .ok (.iconst 1, 1) := by decide +kernel
theorem dX5_findWay_90 : decode cX5_findWay 90 = .ok (.isub, 1) := by decide +kernel
theorem dX5_findWay_91 : decode cX5_findWay 91 = .ok (.iaload, 1) := by decide +kernel
theorem dX5_findWay_92 : decode cX5_findWay 92 = .ok (.ifCond .le 12, 3) := by decide +kernel
theorem dX5_findWay_95 : decode cX5_findWay 95 = .ok (.aload_n 0, 1) := by decide +kernel
theorem dX5_findWay_96 : decode cX5_findWay 96 = .ok (.iload_n 2, 1) := by decide +kernel
theorem dX5_findWay_97 : decode cX5_findWay 97 = .ok (.iconst 1, 1) := by decide +kernel
theorem dX5_findWay_98 : decode cX5_findWay 98 = .ok (.isub, 1) := by decide +kernel
theorem dX5_findWay_99 : decode cX5_findWay 99 = .ok (.iload_n 2, 1) := by decide +kernel
theorem dX5_findWay_100 : decode cX5_findWay 100 = .ok (.iconst 2, 1) := by decide +kernel
theorem dX5_findWay_101 : decode cX5_findWay 101 = .ok (.invokevirtual 111, 3) := by decide +kernel
theorem dX5_findWay_104 : decode cX5_findWay 104 = .ok (.iinc 1 1, 3) := by decide +kernel
theorem dX5_findWay_107 : decode cX5_findWay 107 = .ok (.goto (-101), 3) := by decide +kernel
theorem dX5_findWay_110 : decode cX5_findWay 110 = .ok (.aload_n 0, 1) := by decide +kernel
theorem dX5_findWay_111 : decode cX5_findWay 111 = .ok (.getfield 108, 3) := by decide +kernel
theorem dX5_findWay_114 : decode cX5_findWay 114 = .ok (.ifCond .lt 7, 3) := by decide +kernel
theorem dX5_findWay_117 : decode cX5_findWay 117 = .ok (.iconst 1, 1) := by decide +kernel
theorem dX5_findWay_118 : decode cX5_findWay 118 = .ok (.goto 4, 3) := by decide +kernel
theorem dX5_findWay_121 : decode cX5_findWay 121 = .ok (.iconst 0, 1) := by decide +kernel
theorem dX5_findWay_122 : decode cX5_findWay 122 = .ok (.ireturn, 1) := by decide +kernel
theorem dX5_roomIn_0 : decode cX5_roomIn 0 = .ok (.aload_n 0, 1) := by decide +kernel
theorem dX5_roomIn_1 : decode cX5_roomIn 1 = .ok (.getfield 35, 3) := by decide +kernel
theorem dX5_roomIn_4 : decode cX5_roomIn 4 = .ok (.iload_n 1, 1) := by decide +kernel
theorem dX5_roomIn_5 : decode cX5_roomIn 5 = .ok (.iaload, 1) := by decide +kernel
theorem dX5_roomIn_6 : decode cX5_roomIn 6 = .ok (.istore_n 2, 1) := by decide +kernel
theorem dX5_roomIn_7 : decode cX5_roomIn 7 = .ok (.iload_n 2, 1) := by decide +kernel
theorem dX5_roomIn_8 : decode cX5_roomIn 8 = .ok (.ifCond .ne 13, 3) := by decide +kernel
theorem dX5_roomIn_11 : decode cX5_roomIn 11 = .ok (.aload_n 0, 1) := by decide +kernel
theorem dX5_roomIn_12 : decode cX5_roomIn 12 = .ok (.getfield 29, 3) := by decide +kernel
theorem dX5_roomIn_15 : decode cX5_roomIn 15 = .ok (.iload_n 1, 1) := by decide +kernel
theorem dX5_roomIn_16 : decode cX5_roomIn 16 = .ok (.bipush 61, 2) := by decide +kernel
theorem dX5_roomIn_18 : decode cX5_roomIn 18 = .ok (.idiv, 1) := by decide +kernel
theorem dX5_roomIn_19 : decode cX5_roomIn 19 = .ok (.iaload, 1) := by decide +kernel
theorem dX5_roomIn_20 : decode cX5_roomIn 20 = .ok (.ireturn, 1) := by decide +kernel
theorem dX5_roomIn_21 : decode cX5_roomIn 21 = .ok (.iload_n 2, 1) := by decide +kernel
theorem dX5_roomIn_22 : decode cX5_roomIn 22 = .ok (.iconst 1, 1) := by decide +kernel
theorem dX5_roomIn_23 : decode cX5_roomIn 23 = .ok (.if_icmp .ne 7, 3) := by decide +kernel
theorem dX5_roomIn_26 : decode cX5_roomIn 26 = .ok (.sipush 1000, 3) := by decide +kernel
theorem dX5_roomIn_29 : decode cX5_roomIn 29 = .ok (.ireturn, 1) := by decide +kernel
theorem dX5_roomIn_30 : decode cX5_roomIn 30 = .ok (.iload_n 2, 1) := by decide +kernel
theorem dX5_roomIn_31 : decode cX5_roomIn 31 = .ok (.iconst 2, 1) := by decide +kernel
theorem dX5_roomIn_32 : decode cX5_roomIn 32 = .ok (.if_icmp .ne 10, 3) := by decide +kernel
theorem dX5_roomIn_35 : decode cX5_roomIn 35 = .ok (.aload_n 0, 1) := by decide +kernel
theorem dX5_roomIn_36 : decode cX5_roomIn 36 = .ok (.getfield 26, 3) := by decide +kernel
theorem dX5_roomIn_39 : decode cX5_roomIn 39 = .ok (.iload_n 1, 1) := by decide +kernel
theorem dX5_roomIn_40 : decode cX5_roomIn 40 = .ok (.iaload, 1) := by decide +kernel
theorem dX5_roomIn_41 : decode cX5_roomIn 41 = .ok (.ireturn, 1) := by decide +kernel
theorem dX5_roomIn_42 : decode cX5_roomIn 42 = .ok (.iload_n 2, 1) := by decide +kernel
theorem dX5_roomIn_43 : decode cX5_roomIn 43 = .ok (.bipush 10, 2) := by decide +kernel
theorem dX5_roomIn_45 : decode cX5_roomIn 45 = .ok (.irem, 1) := by decide +kernel
theorem dX5_roomIn_46 : decode cX5_roomIn 46 = .ok (.istore_n 3, 1) := by decide +kernel
theorem dX5_roomIn_47 : decode cX5_roomIn 47 = .ok (.iload_n 2, 1) := by decide +kernel
theorem dX5_roomIn_48 : decode cX5_roomIn 48 = .ok (.bipush 20, 2) := by decide +kernel
theorem dX5_roomIn_50 : decode cX5_roomIn 50 = .ok (.if_icmp .ge 35, 3) := by decide +kernel
theorem dX5_roomIn_53 : decode cX5_roomIn 53 = .ok (.aload_n 0, 1) := by decide +kernel
theorem dX5_roomIn_54 : decode cX5_roomIn 54 = .ok (.getfield 7, 3) := by decide +kernel
theorem dX5_roomIn_57 : decode cX5_roomIn 57 = .ok (.bipush 38, 2) := by decide +kernel
theorem dX5_roomIn_59 : decode cX5_roomIn 59 = .ok (.iload_n 3, 1) := by decide +kernel
theorem dX5_roomIn_60 : decode cX5_roomIn 60 = .ok (.iadd, 1) := by decide +kernel
theorem dX5_roomIn_61 : decode cX5_roomIn 61 = .ok (.iaload, 1) := by decide +kernel
theorem dX5_roomIn_62 : decode cX5_roomIn 62 = .ok (.aload_n 0, 1) := by decide +kernel
theorem dX5_roomIn_63 : decode cX5_roomIn 63 = .ok (.getfield 23, 3) := by decide +kernel
theorem dX5_roomIn_66 : decode cX5_roomIn 66 = .ok (.bipush 61, 2) := by decide +kernel
theorem dX5_roomIn_68 : decode cX5_roomIn 68 = .ok (.iload_n 3, 1) := by decide +kernel
theorem dX5_roomIn_69 : decode cX5_roomIn 69 = .ok (.imul, 1) := by decide +kernel
theorem dX5_roomIn_70 : decode cX5_roomIn 70 = .ok (.aload_n 0, 1) := by decide +kernel
theorem dX5_roomIn_71 : decode cX5_roomIn 71 = .ok (.getfield 32, 3) := by decide +kernel
theorem dX5_roomIn_74 : decode cX5_roomIn 74 = .ok (.iload_n 1, 1) := by decide +kernel
theorem dX5_roomIn_75 : decode cX5_roomIn 75 = .ok (.iaload, 1) := by decide +kernel
theorem dX5_roomIn_76 : decode cX5_roomIn 76 = .ok (.bipush 61, 2) := by decide +kernel
theorem dX5_roomIn_78 : decode cX5_roomIn 78 = .ok (.irem, 1) := by decide +kernel
theorem dX5_roomIn_79 : decode cX5_roomIn 79 = .ok (.iadd, 1) := by decide +kernel
theorem dX5_roomIn_80 : decode cX5_roomIn 80 = .ok (.iaload, 1) := by decide +kernel
theorem dX5_roomIn_81 : decode cX5_roomIn 81 = .ok (.isub, 1) := by decide +kernel
theorem dX5_roomIn_82 : decode cX5_roomIn 82 = .ok (.goto 17, 3) := by decide +kernel
theorem dX5_roomIn_85 : decode cX5_roomIn 85 = .ok (.aload_n 0, 1) := by decide +kernel
theorem dX5_roomIn_86 : decode cX5_roomIn 86 = .ok (.getfield 23, 3) := by decide +kernel
theorem dX5_roomIn_89 : decode cX5_roomIn 89 = .ok (.bipush 61, 2) := by decide +kernel
theorem dX5_roomIn_91 : decode cX5_roomIn 91 = .ok (.iload_n 3, 1) := by decide +kernel
theorem dX5_roomIn_92 : decode cX5_roomIn 92 = .ok (.imul, 1) := by decide +kernel
theorem dX5_roomIn_93 : decode cX5_roomIn 93 = .ok (.iload_n 1, 1) := by decide +kernel
theorem dX5_roomIn_94 : decode cX5_roomIn 94 = .ok (.bipush 61, 2) := by decide +kernel
theorem dX5_roomIn_96 : decode cX5_roomIn 96 = .ok (.irem, 1) := by decide +kernel
theorem dX5_roomIn_97 : decode cX5_roomIn 97 = .ok (.iadd, 1) := by decide +kernel
theorem dX5_roomIn_98 : decode cX5_roomIn 98 = .ok (.iaload, 1) := by decide +kernel
theorem dX5_roomIn_99 : decode cX5_roomIn 99 = .ok (.ireturn, 1) := by decide +kernel
theorem dX5_fill_0 : decode cX5_fill 0 = .ok (.aload_n 0, 1) := by decide +kernel
theorem dX5_fill_1 : decode cX5_fill 1 = .ok (.getfield 35, 3) := by decide +kernel
theorem dX5_fill_4 : decode cX5_fill 4 = .ok (.iload_n 1, 1) := by decide +kernel
theorem dX5_fill_5 : decode cX5_fill 5 = .ok (.iaload, 1) := by decide +kernel
theorem dX5_fill_6 : decode cX5_fill 6 = .ok (.istore_n 3, 1) := by decide +kernel
theorem dX5_fill_7 : decode cX5_fill 7 = .ok (.iload_n 3, 1) := by decide +kernel
theorem dX5_fill_8 : decode cX5_fill 8 = .ok (.ifCond .ne 19, 3) := by decide +kernel
theorem dX5_fill_11 : decode cX5_fill 11 = .ok (.aload_n 0, 1) := by decide +kernel
theorem dX5_fill_12 : decode cX5_fill 12 = .ok (.getfield 29, 3) := by decide +kernel
theorem dX5_fill_15 : decode cX5_fill 15 = .ok (.iload_n 1, 1) := by decide +kernel
theorem dX5_fill_16 : decode cX5_fill 16 = .ok (.bipush 61, 2) := by decide +kernel
theorem dX5_fill_18 : decode cX5_fill 18 = .ok (.idiv, 1) := by decide +kernel
theorem dX5_fill_19 : decode cX5_fill 19 = .ok (.dup2, 1) := by decide +kernel
theorem dX5_fill_20 : decode cX5_fill 20 = .ok (.iaload, 1) := by decide +kernel
theorem dX5_fill_21 : decode cX5_fill 21 = .ok (.iload_n 2, 1) := by decide +kernel
theorem dX5_fill_22 : decode cX5_fill 22 = .ok (.isub, 1) := by decide +kernel
theorem dX5_fill_23 : decode cX5_fill 23 = .ok (.iastore, 1) := by decide +kernel
theorem dX5_fill_24 : decode cX5_fill 24 = .ok (.goto 100, 3) := by decide +kernel
theorem dX5_fill_27 : decode cX5_fill 27 = .ok (.iload_n 3, 1) := by decide +kernel
theorem dX5_fill_28 : decode cX5_fill 28 = .ok (.iconst 1, 1) := by decide +kernel
theorem dX5_fill_29 : decode cX5_fill 29 = .ok (.if_icmp .ne 21, 3) := by decide +kernel
theorem dX5_fill_32 : decode cX5_fill 32 = .ok (.aload_n 0, 1) := by decide +kernel
theorem dX5_fill_33 : decode cX5_fill 33 = .ok (.getfield 26, 3) := by decide +kernel
theorem dX5_fill_36 : decode cX5_fill 36 = .ok (.aload_n 0, 1) := by decide +kernel
theorem dX5_fill_37 : decode cX5_fill 37 = .ok (.getfield 32, 3) := by decide +kernel
theorem dX5_fill_40 : decode cX5_fill 40 = .ok (.iload_n 1, 1) := by decide +kernel
theorem dX5_fill_41 : decode cX5_fill 41 = .ok (.iaload, 1) := by decide +kernel
theorem dX5_fill_42 : decode cX5_fill 42 = .ok (.dup2, 1) := by decide +kernel
theorem dX5_fill_43 : decode cX5_fill 43 = .ok (.iaload, 1) := by decide +kernel
theorem dX5_fill_44 : decode cX5_fill 44 = .ok (.iload_n 2, 1) := by decide +kernel
theorem dX5_fill_45 : decode cX5_fill 45 = .ok (.iadd, 1) := by decide +kernel
theorem dX5_fill_46 : decode cX5_fill 46 = .ok (.iastore, 1) := by decide +kernel
theorem dX5_fill_47 : decode cX5_fill 47 = .ok (.goto 77, 3) := by decide +kernel
theorem dX5_fill_50 : decode cX5_fill 50 = .ok (.iload_n 3, 1) := by decide +kernel
theorem dX5_fill_51 : decode cX5_fill 51 = .ok (.iconst 2, 1) := by decide +kernel
theorem dX5_fill_52 : decode cX5_fill 52 = .ok (.if_icmp .ne 16, 3) := by decide +kernel
theorem dX5_fill_55 : decode cX5_fill 55 = .ok (.aload_n 0, 1) := by decide +kernel
theorem dX5_fill_56 : decode cX5_fill 56 = .ok (.getfield 26, 3) := by decide +kernel
theorem dX5_fill_59 : decode cX5_fill 59 = .ok (.iload_n 1, 1) := by decide +kernel
theorem dX5_fill_60 : decode cX5_fill 60 = .ok (.dup2, 1) := by decide +kernel
theorem dX5_fill_61 : decode cX5_fill 61 = .ok (.iaload, 1) := by decide +kernel
theorem dX5_fill_62 : decode cX5_fill 62 = .ok (.iload_n 2, 1) := by decide +kernel
theorem dX5_fill_63 : decode cX5_fill 63 = .ok (.isub, 1) := by decide +kernel
theorem dX5_fill_64 : decode cX5_fill 64 = .ok (.iastore, 1) := by decide +kernel
theorem dX5_fill_65 : decode cX5_fill 65 = .ok (.goto 59, 3) := by decide +kernel
theorem dX5_fill_68 : decode cX5_fill 68 = .ok (.iload_n 3, 1) := by decide +kernel
theorem dX5_fill_69 : decode cX5_fill 69 = .ok (.bipush 20, 2) := by decide +kernel
theorem dX5_fill_71 : decode cX5_fill 71 = .ok (.if_icmp .ge 32, 3) := by decide +kernel
theorem dX5_fill_74 : decode cX5_fill 74 = .ok (.aload_n 0, 1) := by decide +kernel
theorem dX5_fill_75 : decode cX5_fill 75 = .ok (.getfield 23, 3) := by decide +kernel
theorem dX5_fill_78 : decode cX5_fill 78 = .ok (.bipush 61, 2) := by decide +kernel
theorem dX5_fill_80 : decode cX5_fill 80 = .ok (.iload_n 3, 1) := by decide +kernel
theorem dX5_fill_81 : decode cX5_fill 81 = .ok (.bipush 10, 2) := by decide +kernel
theorem dX5_fill_83 : decode cX5_fill 83 = .ok (.irem, 1) := by decide +kernel
theorem dX5_fill_84 : decode cX5_fill 84 = .ok (.imul, 1) := by decide +kernel
theorem dX5_fill_85 : decode cX5_fill 85 = .ok (.aload_n 0, 1) := by decide +kernel
theorem dX5_fill_86 : decode cX5_fill 86 = .ok (.getfield 32, 3) := by decide +kernel
theorem dX5_fill_89 : decode cX5_fill 89 = .ok (.iload_n 1, 1) := by decide +kernel
theorem dX5_fill_90 : decode cX5_fill 90 = .ok (.iaload, 1) := by decide +kernel
theorem dX5_fill_91 : decode cX5_fill 91 = .ok (.bipush 61, 2) := by decide +kernel
theorem dX5_fill_93 : decode cX5_fill 93 = .ok (.irem, 1) := by decide +kernel
theorem dX5_fill_94 : decode cX5_fill 94 = .ok (.iadd, 1) := by decide +kernel
theorem dX5_fill_95 : decode cX5_fill 95 = .ok (.dup2, 1) := by decide +kernel
theorem dX5_fill_96 : decode cX5_fill 96 = .ok (.iaload, 1) := by decide +kernel
theorem dX5_fill_97 : decode cX5_fill 97 = .ok (.iload_n 2, 1) := by decide +kernel
theorem dX5_fill_98 : decode cX5_fill 98 = .ok (.iadd, 1) := by decide +kernel
theorem dX5_fill_99 : decode cX5_fill 99 = .ok (.iastore, 1) := by decide +kernel
theorem dX5_fill_100 : decode cX5_fill 100 = .ok (.goto 24, 3) := by decide +kernel
theorem dX5_fill_103 : decode cX5_fill 103 = .ok (.aload_n 0, 1) := by decide +kernel
theorem dX5_fill_104 : decode cX5_fill 104 = .ok (.getfield 23, 3) := by decide +kernel
theorem dX5_fill_107 : decode cX5_fill 107 = .ok (.bipush 61, 2) := by decide +kernel
theorem dX5_fill_109 : decode cX5_fill 109 = .ok (.iload_n 3, 1) := by decide +kernel
theorem dX5_fill_110 : decode cX5_fill 110 = .ok (.bipush 10, 2) := by decide +kernel
theorem dX5_fill_112 : decode cX5_fill 112 = .ok (.irem, 1) := by decide +kernel
theorem dX5_fill_113 : decode cX5_fill 113 = .ok (.imul, 1) := by decide +kernel
theorem dX5_fill_114 : decode cX5_fill 114 = .ok (.iload_n 1, 1) := by decide +kernel
theorem dX5_fill_115 : decode cX5_fill 115 = .ok (.bipush 61, 2) := by decide +kernel
theorem dX5_fill_117 : decode cX5_fill 117 = .ok (.irem, 1) := by decide +kernel
theorem dX5_fill_118 : decode cX5_fill 118 = .ok (.iadd, 1) := by decide +kernel
theorem dX5_fill_119 : decode cX5_fill 119 = .ok (.dup2, 1) := by decide +kernel
theorem dX5_fill_120 : decode cX5_fill 120 = .ok (.iaload, 1) := by decide +kernel
theorem dX5_fill_121 : decode cX5_fill 121 = .ok (.iload_n 2, 1) := by decide +kernel
theorem dX5_fill_122 : decode cX5_fill 122 = .ok (.isub, 1) := by decide +kernel
theorem dX5_fill_123 : decode cX5_fill 123 = .ok (.iastore, 1) := by decide +kernel
theorem dX5_fill_124 : decode cX5_fill 124 = .ok (.return_, 1) := by decide +kernel
theorem dX5_fillWay_0 : decode cX5_fillWay 0 = .ok (.aload_n 0, 1) := by decide +kernel
theorem dX5_fillWay_1 : decode cX5_fillWay 1 = .ok (.getfield 7, 3) := by decide +kernel
theorem dX5_fillWay_4 : decode cX5_fillWay 4 = .ok (.bipush 38, 2) := by decide +kernel
theorem dX5_fillWay_6 : decode cX5_fillWay 6 = .ok (.aload_n 0, 1) := by decide +kernel
theorem dX5_fillWay_7 : decode cX5_fillWay 7 = .ok (.getfield 119, 3) := by decide +kernel
theorem dX5_fillWay_10 : decode cX5_fillWay 10 = .ok (.iadd, 1) := by decide +kernel
theorem dX5_fillWay_11 : decode cX5_fillWay 11 = .ok (.iaload, 1) := by decide +kernel
theorem dX5_fillWay_12 : decode cX5_fillWay 12 = .ok (.aload_n 0, 1) := by decide +kernel
theorem dX5_fillWay_13 : decode cX5_fillWay 13 = .ok (.getfield 23, 3) := by decide +kernel
theorem dX5_fillWay_16 : decode cX5_fillWay 16 = .ok (.bipush 61, 2) := by decide +kernel
theorem dX5_fillWay_18 : decode cX5_fillWay 18 = .ok (.aload_n 0, 1) := by decide +kernel
theorem dX5_fillWay_19 : decode cX5_fillWay 19 = .ok (.getfield 119, 3) := by decide +kernel
theorem dX5_fillWay_22 : decode cX5_fillWay 22 = .ok (.imul, 1) := by decide +kernel
theorem dX5_fillWay_23 : decode cX5_fillWay 23 = .ok (.aload_n 0, 1) := by decide +kernel
theorem dX5_fillWay_24 : decode cX5_fillWay 24 = .ok (.getfield 108, 3) := by decide +kernel
theorem dX5_fillWay_27 : decode cX5_fillWay 27 = .ok (.bipush 61, 2) := by decide +kernel
theorem dX5_fillWay_29 : decode cX5_fillWay 29 = .ok (.irem, 1) := by decide +kernel
theorem dX5_fillWay_30 : decode cX5_fillWay 30 = .ok (.iadd, 1) := by decide +kernel
theorem dX5_fillWay_31 : decode cX5_fillWay 31 = .ok (.iaload, 1) := by decide +kernel
theorem dX5_fillWay_32 : decode cX5_fillWay 32 = .ok (.isub, 1) := by decide +kernel
theorem dX5_fillWay_33 : decode cX5_fillWay 33 = .ok (.istore_n 1, 1) := by decide +kernel
theorem dX5_fillWay_34 : decode cX5_fillWay 34 = .ok (.aload_n 0, 1) := by decide +kernel
theorem dX5_fillWay_35 : decode cX5_fillWay 35 = .ok (.getfield 108, 3) := by decide +kernel
theorem dX5_fillWay_38 : decode cX5_fillWay 38 = .ok (.istore_n 2, 1) := by decide +kernel
theorem dX5_fillWay_39 : decode cX5_fillWay 39 = .ok (.iload_n 2, 1) := by decide +kernel
theorem dX5_fillWay_40 : decode cX5_fillWay 40 = .ok (.ifCond .lt 30, 3) := by decide +kernel
theorem dX5_fillWay_43 : decode cX5_fillWay 43 = .ok (.aload_n 0, 1) := by decide +kernel
theorem dX5_fillWay_44 : decode cX5_fillWay 44 = .ok (.iload_n 2, 1) := by decide +kernel
theorem dX5_fillWay_45 : decode cX5_fillWay 45 = .ok (.invokevirtual 129, 3) := by decide +kernel
theorem dX5_fillWay_48 : decode cX5_fillWay 48 = .ok (.istore_n 3, 1) := by decide +kernel
theorem dX5_fillWay_49 : decode cX5_fillWay 49 = .ok (.iload_n 3, 1) := by decide +kernel
theorem dX5_fillWay_50 : decode cX5_fillWay 50 = .ok (.iload_n 1, 1) := by decide +kernel
theorem dX5_fillWay_51 : decode cX5_fillWay 51 = .ok (.if_icmp .ge 7, 3) := by decide +kernel
theorem dX5_fillWay_54 : decode cX5_fillWay 54 = .ok (.iload_n 3, 1) := by decide +kernel
theorem dX5_fillWay_55 : decode cX5_fillWay 55 = .ok (.goto 4, 3) := by decide +kernel
theorem dX5_fillWay_58 : decode cX5_fillWay 58 = .ok (.iload_n 1, 1) := by decide +kernel
theorem dX5_fillWay_59 : decode cX5_fillWay 59 = .ok (.istore_n 1, 1) := by decide +kernel
theorem dX5_fillWay_60 : decode cX5_fillWay 60 = .ok (.aload_n 0, 1) := by decide +kernel
theorem dX5_fillWay_61 : decode cX5_fillWay 61 = .ok (.getfield 32, 3) := by decide +kernel
theorem dX5_fillWay_64 : decode cX5_fillWay 64 = .ok (.iload_n 2, 1) := by decide +kernel
theorem dX5_fillWay_65 : decode cX5_fillWay 65 = .ok (.iaload, 1) := by decide +kernel
theorem dX5_fillWay_66 : decode cX5_fillWay 66 = .ok (.istore_n 2, 1) := by decide +kernel
theorem dX5_fillWay_67 : decode cX5_fillWay 67 = .ok (.goto (-28), 3) := by decide +kernel
theorem dX5_fillWay_70 : decode cX5_fillWay 70 = .ok (.aload_n 0, 1) := by decide +kernel
theorem dX5_fillWay_71 : decode cX5_fillWay 71 = .ok (.getfield 23, 3) := by decide +kernel
theorem dX5_fillWay_74 : decode cX5_fillWay 74 = .ok (.bipush 61, 2) := by decide +kernel
theorem dX5_fillWay_76 : decode cX5_fillWay 76 = .ok (.aload_n 0, 1) := by decide +kernel
theorem dX5_fillWay_77 : decode cX5_fillWay 77 = .ok (.getfield 119, 3) := by decide +kernel
theorem dX5_fillWay_80 : decode cX5_fillWay 80 = .ok (.imul, 1) := by decide +kernel
theorem dX5_fillWay_81 : decode cX5_fillWay 81 = .ok (.aload_n 0, 1) := by decide +kernel
theorem dX5_fillWay_82 : decode cX5_fillWay 82 = .ok (.getfield 108, 3) := by decide +kernel
theorem dX5_fillWay_85 : decode cX5_fillWay 85 = .ok (.bipush 61, 2) := by decide +kernel
theorem dX5_fillWay_87 : decode cX5_fillWay 87 = .ok (.irem, 1) := by decide +kernel
theorem dX5_fillWay_88 : decode cX5_fillWay 88 = .ok (.iadd, 1) := by decide +kernel
theorem dX5_fillWay_89 : decode cX5_fillWay 89 = .ok (.dup2, 1) := by decide +kernel
theorem dX5_fillWay_90 : decode cX5_fillWay 90 = .ok (.iaload, 1) := by decide +kernel
theorem dX5_fillWay_91 : decode cX5_fillWay 91 = .ok (.iload_n 1, 1) := by decide +kernel
theorem dX5_fillWay_92 : decode cX5_fillWay 92 = .ok (.iadd, 1) := by decide +kernel
theorem dX5_fillWay_93 : decode cX5_fillWay 93 = .ok (.iastore, 1) := by decide +kernel
theorem dX5_fillWay_94 : decode cX5_fillWay 94 = .ok (.aload_n 0, 1) := by decide +kernel
theorem dX5_fillWay_95 : decode cX5_fillWay 95 = .ok (.getfield 108, 3) := by decide +kernel
theorem dX5_fillWay_98 : decode cX5_fillWay 98 = .ok (.istore_n 2, 1) := by decide +kernel
theorem dX5_fillWay_99 : decode cX5_fillWay 99 = .ok (.iload_n 2, 1) := by decide +kernel
theorem dX5_fillWay_100 : decode cX5_fillWay 100 = .ok (.ifCond .lt 21, 3) := by decide +kernel
theorem dX5_fillWay_103 : decode cX5_fillWay 103 = .ok (.aload_n 0, 1) := by decide +kernel
theorem dX5_fillWay_104 : decode cX5_fillWay 104 = .ok (.getfield 32, 3) := by decide +kernel
theorem dX5_fillWay_107 : decode cX5_fillWay 107 = .ok (.iload_n 2, 1) := by decide +kernel
theorem dX5_fillWay_108 : decode cX5_fillWay 108 = .ok (.iaload, 1) := by decide +kernel
theorem dX5_fillWay_109 : decode cX5_fillWay 109 = .ok (.istore_n 3, 1) := by decide +kernel
theorem dX5_fillWay_110 : decode cX5_fillWay 110 = .ok (.aload_n 0, 1) := by decide +kernel
theorem dX5_fillWay_111 : decode cX5_fillWay 111 = .ok (.iload_n 2, 1) := by decide +kernel
theorem dX5_fillWay_112 : decode cX5_fillWay 112 = .ok (.iload_n 1, 1) := by decide +kernel
theorem dX5_fillWay_113 : decode cX5_fillWay 113 = .ok (.invokevirtual 132, 3) := by decide +kernel
theorem dX5_fillWay_116 : decode cX5_fillWay 116 = .ok (.iload_n 3, 1) := by decide +kernel
theorem dX5_fillWay_117 : decode cX5_fillWay 117 = .ok (.istore_n 2, 1) := by decide +kernel
theorem dX5_fillWay_118 : decode cX5_fillWay 118 = .ok (.goto (-19), 3) := by decide +kernel
theorem dX5_fillWay_121 : decode cX5_fillWay 121 = .ok (.iload_n 1, 1) := by decide +kernel
theorem dX5_fillWay_122 : decode cX5_fillWay 122 = .ok (.ireturn, 1) := by decide +kernel
theorem dX5_outBy_0 : decode cX5_outBy 0 = .ok (.aload_n 0, 1) := by decide +kernel
theorem dX5_outBy_1 : decode cX5_outBy 1 = .ok (.iload_n 1, 1) := by decide +kernel
theorem dX5_outBy_2 : decode cX5_outBy 2 = .ok (.invokevirtual 135, 3) := by decide +kernel
theorem dX5_outBy_5 : decode cX5_outBy 5 = .ok (.iconst 0, 1) := by decide +kernel
theorem dX5_outBy_6 : decode cX5_outBy 6 = .ok (.istore_n 2, 1) := by decide +kernel
theorem dX5_outBy_7 : decode cX5_outBy 7 = .ok (.iconst 0, 1) := by decide +kernel
theorem dX5_outBy_8 : decode cX5_outBy 8 = .ok (.istore_n 3, 1) := by decide +kernel
theorem dX5_outBy_9 : decode cX5_outBy 9 = .ok (.iload_n 3, 1) := by decide +kernel
theorem dX5_outBy_10 : decode cX5_outBy 10 = .ok (.bipush 6, 2) := by decide +kernel
theorem dX5_outBy_12 : decode cX5_outBy 12 = .ok (.if_icmp .ge 32, 3) := by decide +kernel
theorem dX5_outBy_15 : decode cX5_outBy 15 = .ok (.iload_n 2, 1) := by decide +kernel
theorem dX5_outBy_16 : decode cX5_outBy 16 = .ok (.aload_n 0, 1) := by decide +kernel
theorem dX5_outBy_17 : decode cX5_outBy 17 = .ok (.iload_n 3, 1) := by decide +kernel
theorem dX5_outBy_18 : decode cX5_outBy 18 = .ok (.invokevirtual 102, 3) := by decide +kernel
theorem dX5_outBy_21 : decode cX5_outBy 21 = .ok (.ifCond .eq 14, 3) := by decide +kernel
theorem dX5_outBy_24 : decode cX5_outBy 24 = .ok (.aload_n 0, 1) := by decide +kernel
theorem dX5_outBy_25 : decode cX5_outBy 25 = .ok (.getfield 7, 3) := by decide +kernel
theorem dX5_outBy_28 : decode cX5_outBy 28 = .ok (.iconst 0, 1) := by decide +kernel
theorem dX5_outBy_29 : decode cX5_outBy 29 = .ok (.iload_n 3, 1) := by decide +kernel
theorem dX5_outBy_30 : decode cX5_outBy 30 = .ok (.iadd, 1) := by decide +kernel
theorem dX5_outBy_31 : decode cX5_outBy 31 = .ok (.iaload, 1) := by decide +kernel
theorem dX5_outBy_32 : decode cX5_outBy 32 = .ok (.goto 4, 3) := by decide +kernel
theorem dX5_outBy_35 : decode cX5_outBy 35 = .ok (.iconst 0, 1) := by decide +kernel
theorem dX5_outBy_36 : decode cX5_outBy 36 = .ok (.iadd, 1) := by decide +kernel
theorem dX5_outBy_37 : decode cX5_outBy 37 = .ok (.istore_n 2, 1) := by decide +kernel
theorem dX5_outBy_38 : decode cX5_outBy 38 = .ok (.iinc 3 1, 3) := by decide +kernel
theorem dX5_outBy_41 : decode cX5_outBy 41 = .ok (.goto (-32), 3) := by decide +kernel
theorem dX5_outBy_44 : decode cX5_outBy 44 = .ok (.aload_n 0, 1) := by decide +kernel
theorem dX5_outBy_45 : decode cX5_outBy 45 = .ok (.invokevirtual 139, 3) := by decide +kernel
theorem dX5_outBy_48 : decode cX5_outBy 48 = .ok (.ifCond .eq 13, 3) := by decide +kernel
theorem dX5_outBy_51 : decode cX5_outBy 51 = .ok (.iload_n 2, 1) := by decide +kernel
theorem dX5_outBy_52 : decode cX5_outBy 52 = .ok (.aload_n 0, 1) := by decide +kernel
theorem dX5_outBy_53 : decode cX5_outBy 53 = .ok (.invokevirtual 143, 3) := by decide +kernel
theorem dX5_outBy_56 : decode cX5_outBy 56 = .ok (.iadd, 1) := by decide +kernel
theorem dX5_outBy_57 : decode cX5_outBy 57 = .ok (.istore_n 2, 1) := by decide +kernel
theorem dX5_outBy_58 : decode cX5_outBy 58 = .ok (.goto (-14), 3) := by decide +kernel
theorem dX5_outBy_61 : decode cX5_outBy 61 = .ok (.iload_n 2, 1) := by decide +kernel
theorem dX5_outBy_62 : decode cX5_outBy 62 = .ok (.ireturn, 1) := by decide +kernel
theorem dX5_out_0 : decode cX5_out 0 = .ok (.iload_n 1, 1) := by decide +kernel
theorem dX5_out_1 : decode cX5_out 1 = .ok (.iconst 0, 1) := by decide +kernel
theorem dX5_out_2 : decode cX5_out 2 = .ok (.bipush 60, 2) := by decide +kernel
theorem dX5_out_4 : decode cX5_out 4 = .ok (.invokestatic 50, 3) := by decide +kernel
theorem dX5_out_7 : decode cX5_out 7 = .ok (.ifCond .eq 11, 3) := by decide +kernel
theorem dX5_out_10 : decode cX5_out 10 = .ok (.aload_n 0, 1) := by decide +kernel
theorem dX5_out_11 : decode cX5_out 11 = .ok (.iload_n 1, 1) := by decide +kernel
theorem dX5_out_12 : decode cX5_out 12 = .ok (.invokevirtual 146, 3) := by decide +kernel
theorem dX5_out_15 : decode cX5_out 15 = .ok (.goto 5, 3) := by decide +kernel
theorem dX5_out_18 : decode cX5_out 18 = .ok (.bipush (-2), 2) := by decide +kernel
theorem dX5_out_20 : decode cX5_out 20 = .ok (.ireturn, 1) := by decide +kernel
theorem dX5_lastOne_0 : decode cX5_lastOne 0 = .ok (.aload_n 0, 1) := by decide +kernel
theorem dX5_lastOne_1 : decode cX5_lastOne 1 = .ok (.invokevirtual 149, 3) := by decide +kernel
theorem dX5_lastOne_4 : decode cX5_lastOne 4 = .ok (.istore_n 1, 1) := by decide +kernel
theorem dX5_lastOne_5 : decode cX5_lastOne 5 = .ok (.aload_n 0, 1) := by decide +kernel
theorem dX5_lastOne_6 : decode cX5_lastOne 6 = .ok (.bipush 60, 2) := by decide +kernel
theorem dX5_lastOne_8 : decode cX5_lastOne 8 = .ok (.invokevirtual 146, 3) := by decide +kernel
theorem dX5_lastOne_11 : decode cX5_lastOne 11 = .ok (.iload_n 1, 1) := by decide +kernel
theorem dX5_lastOne_12 : decode cX5_lastOne 12 = .ok (.if_icmp .ge 6, 3) := by decide +kernel
theorem dX5_lastOne_15 : decode cX5_lastOne 15 = .ok (.bipush (-6), 2) := by decide +kernel
theorem dX5_lastOne_17 : decode cX5_lastOne 17 = .ok (.ireturn, 1) := by decide +kernel
theorem dX5_lastOne_18 : decode cX5_lastOne 18 = .ok (.iconst (-1), 1) := by decide +kernel
theorem dX5_lastOne_19 : decode cX5_lastOne 19 = .ok (.istore_n 2, 1) := by decide +kernel
theorem dX5_lastOne_20 : decode cX5_lastOne 20 = .ok (.bipush 60, 2) := by decide +kernel
theorem dX5_lastOne_22 : decode cX5_lastOne 22 = .ok (.istore_n 3, 1) := by decide +kernel
theorem dX5_lastOne_23 : decode cX5_lastOne 23 = .ok (.iload_n 3, 1) := by decide +kernel
theorem dX5_lastOne_24 : decode cX5_lastOne 24 = .ok (.iload_n 2, 1) := by decide +kernel
theorem dX5_lastOne_25 : decode cX5_lastOne 25 = .ok (.isub, 1) := by decide +kernel
theorem dX5_lastOne_26 : decode cX5_lastOne 26 = .ok (.iconst 1, 1) := by decide +kernel
theorem dX5_lastOne_27 : decode cX5_lastOne 27 = .ok (.if_icmp .le 32, 3) := by decide +kernel
theorem dX5_lastOne_30 : decode cX5_lastOne 30 = .ok (.iload_n 3, 1) := by decide +kernel
theorem dX5_lastOne_31 : decode cX5_lastOne 31 = .ok (.iload_n 2, 1) := by decide +kernel
theorem dX5_lastOne_32 : decode cX5_lastOne 32 = .ok (.iadd, 1) := by decide +kernel
theorem dX5_lastOne_33 : decode cX5_lastOne 33 = .ok (.iconst 2, 1) := by decide +kernel
theorem dX5_lastOne_34 : decode cX5_lastOne 34 = .ok (.idiv, 1) := by decide +kernel
theorem dX5_lastOne_35 : decode cX5_lastOne 35 = .ok (.istore 4, 2) := by decide +kernel
theorem dX5_lastOne_37 : decode cX5_lastOne 37 = .ok (.aload_n 0, 1) := by decide +kernel
theorem dX5_lastOne_38 : decode cX5_lastOne 38 = .ok (.iload 4, 2) := by decide +kernel
theorem dX5_lastOne_40 : decode cX5_lastOne 40 = .ok (.invokevirtual 146, 3) := by decide +kernel
theorem dX5_lastOne_43 : decode cX5_lastOne 43 = .ok (.iload_n 1, 1) := by decide +kernel
theorem dX5_lastOne_44 : decode cX5_lastOne 44 = .ok (.if_icmp .ne 9, 3) := by decide +kernel
theorem dX5_lastOne_47 : decode cX5_lastOne 47 = .ok (.iload 4, 2) := by decide +kernel
theorem dX5_lastOne_49 : decode cX5_lastOne 49 = .ok (.istore_n 3, 1) := by decide +kernel
theorem dX5_lastOne_50 : decode cX5_lastOne 50 = .ok (.goto 6, 3) := by decide +kernel
theorem dX5_lastOne_53 : decode cX5_lastOne 53 = .ok (.iload 4, 2) := by decide +kernel
theorem dX5_lastOne_55 : decode cX5_lastOne 55 = .ok (.istore_n 2, 1) := by decide +kernel
theorem dX5_lastOne_56 : decode cX5_lastOne 56 = .ok (.goto (-33), 3) := by decide +kernel
theorem dX5_lastOne_59 : decode cX5_lastOne 59 = .ok (.iload_n 3, 1) := by decide +kernel
theorem dX5_lastOne_60 : decode cX5_lastOne 60 = .ok (.ireturn, 1) := by decide +kernel
theorem dX5_last_0 : decode cX5_last 0 = .ok (.aload_n 0, 1) := by decide +kernel
theorem dX5_last_1 : decode cX5_last 1 = .ok (.invokevirtual 152, 3) := by decide +kernel
theorem dX5_last_4 : decode cX5_last 4 = .ok (.ireturn, 1) := by decide +kernel
theorem dX5_helps_0 : decode cX5_helps 0 = .ok (.aload_n 0, 1) := by decide +kernel
theorem dX5_helps_1 : decode cX5_helps 1 = .ok (.invokevirtual 152, 3) := by decide +kernel
theorem dX5_helps_4 : decode cX5_helps 4 = .ok (.istore_n 1, 1) := by decide +kernel
theorem dX5_helps_5 : decode cX5_helps 5 = .ok (.iconst 0, 1) := by decide +kernel
theorem dX5_helps_6 : decode cX5_helps 6 = .ok (.istore_n 2, 1) := by decide +kernel
theorem dX5_helps_7 : decode cX5_helps 7 = .ok (.iconst 0, 1) := by decide +kernel
theorem dX5_helps_8 : decode cX5_helps 8 = .ok (.istore_n 3, 1) := by decide +kernel
theorem dX5_helps_9 : decode cX5_helps 9 = .ok (.iload_n 3, 1) := by decide +kernel
theorem dX5_helps_10 : decode cX5_helps 10 = .ok (.aload_n 0, 1) := by decide +kernel
theorem dX5_helps_11 : decode cX5_helps 11 = .ok (.invokevirtual 54, 3) := by decide +kernel
theorem dX5_helps_14 : decode cX5_helps 14 = .ok (.if_icmp .ge 66, 3) := by decide +kernel
theorem dX5_helps_17 : decode cX5_helps 17 = .ok (.aload_n 0, 1) := by decide +kernel
theorem dX5_helps_18 : decode cX5_helps 18 = .ok (.getfield 7, 3) := by decide +kernel
theorem dX5_helps_21 : decode cX5_helps 21 = .ok (.bipush 38, 2) := by decide +kernel
theorem dX5_helps_23 : decode cX5_helps 23 = .ok (.iload_n 3, 1) := by decide +kernel
theorem dX5_helps_24 : decode cX5_helps 24 = .ok (.iadd, 1) := by decide +kernel
theorem dX5_helps_25 : decode cX5_helps 25 = .ok (.dup2, 1) := by decide +kernel
theorem dX5_helps_26 : decode cX5_helps 26 = .ok (.iaload, 1) := by decide +kernel
theorem dX5_helps_27 : decode cX5_helps 27 = .ok (.iconst 1, 1) := by decide +kernel
theorem dX5_helps_28 : decode cX5_helps 28 = .ok (.iadd, 1) := by decide +kernel
theorem dX5_helps_29 : decode cX5_helps 29 = .ok (.iastore, 1) := by decide +kernel
theorem dX5_helps_30 : decode cX5_helps 30 = .ok (.aload_n 0, 1) := by decide +kernel
theorem dX5_helps_31 : decode cX5_helps 31 = .ok (.invokevirtual 152, 3) := by decide +kernel
theorem dX5_helps_34 : decode cX5_helps 34 = .ok (.istore 4, 2) := by decide +kernel
theorem dX5_helps_36 : decode cX5_helps 36 = .ok (.aload_n 0, 1) := by decide +kernel
theorem dX5_helps_37 : decode cX5_helps 37 = .ok (.getfield 7, 3) := by decide +kernel
theorem dX5_helps_40 : decode cX5_helps 40 = .ok (.bipush 38, 2) := by decide +kernel
theorem dX5_helps_42 : decode cX5_helps 42 = .ok (.iload_n 3, 1) := by decide +kernel
theorem dX5_helps_43 : decode cX5_helps 43 = .ok (.iadd, 1) := by decide +kernel
theorem dX5_helps_44 : decode cX5_helps 44 = .ok (.dup2, 1) := by decide +kernel
theorem dX5_helps_45 : decode cX5_helps 45 = .ok (.iaload, 1) := by decide +kernel
theorem dX5_helps_46 : decode cX5_helps 46 = .ok (.iconst 1, 1) := by decide +kernel
theorem dX5_helps_47 : decode cX5_helps 47 = .ok (.isub, 1) := by decide +kernel
theorem dX5_helps_48 : decode cX5_helps 48 = .ok (.iastore, 1) := by decide +kernel
theorem dX5_helps_49 : decode cX5_helps 49 = .ok (.iload_n 2, 1) := by decide +kernel
theorem dX5_helps_50 : decode cX5_helps 50 = .ok (.iload 4, 2) := by decide +kernel
theorem dX5_helps_52 : decode cX5_helps 52 = .ok (.ifCond .lt 19, 3) := by decide +kernel
theorem dX5_helps_55 : decode cX5_helps 55 = .ok (.iload_n 1, 1) := by decide +kernel
theorem dX5_helps_56 : decode cX5_helps 56 = .ok (.ifCond .lt 9, 3) := by decide +kernel
theorem dX5_helps_59 : decode cX5_helps 59 = .ok (.iload 4, 2) := by decide +kernel
theorem dX5_helps_61 : decode cX5_helps 61 = .ok (.iload_n 1, 1) := by decide +kernel
theorem dX5_helps_62 : decode cX5_helps 62 = .ok (.if_icmp .ge 9, 3) := by decide +kernel
theorem dX5_helps_65 : decode cX5_helps 65 = .ok (.iconst 1, 1) := by decide +kernel
theorem dX5_helps_66 : decode cX5_helps 66 = .ok (.iload_n 3, 1) := by decide +kernel
theorem dX5_helps_67 : decode cX5_helps 67 = .ok (.ishl, 1) := by decide +kernel
theorem dX5_helps_68 : decode cX5_helps 68 = .ok (.goto 4, 3) := by decide +kernel
theorem dX5_helps_71 : decode cX5_helps 71 = .ok (.iconst 0, 1) := by decide +kernel
theorem dX5_helps_72 : decode cX5_helps 72 = .ok (.ior, 1) := by decide +kernel
theorem dX5_helps_73 : decode cX5_helps 73 = .ok (.istore_n 2, 1) := by decide +kernel
theorem dX5_helps_74 : decode cX5_helps 74 = .ok (.iinc 3 1, 3) := by decide +kernel
theorem dX5_helps_77 : decode cX5_helps 77 = .ok (.goto (-68), 3) := by decide +kernel
theorem dX5_helps_80 : decode cX5_helps 80 = .ok (.iload_n 2, 1) := by decide +kernel
theorem dX5_helps_81 : decode cX5_helps 81 = .ok (.ireturn, 1) := by decide +kernel
theorem dX5_lastShut_0 : decode cX5_lastShut 0 = .ok (.aload_n 0, 1) := by decide +kernel
theorem dX5_lastShut_1 : decode cX5_lastShut 1 = .ok (.getfield 7, 3) := by decide +kernel
theorem dX5_lastShut_4 : decode cX5_lastShut 4 = .ok (.bipush 58, 2) := by decide +kernel
theorem dX5_lastShut_6 : decode cX5_lastShut 6 = .ok (.iload_n 1, 1) := by decide +kernel
theorem dX5_lastShut_7 : decode cX5_lastShut 7 = .ok (.iadd, 1) := by decide +kernel
theorem dX5_lastShut_8 : decode cX5_lastShut 8 = .ok (.iaload, 1) := by decide +kernel
theorem dX5_lastShut_9 : decode cX5_lastShut 9 = .ok (.istore_n 3, 1) := by decide +kernel
theorem dX5_lastShut_10 : decode cX5_lastShut 10 = .ok (.aload_n 0, 1) := by decide +kernel
theorem dX5_lastShut_11 : decode cX5_lastShut 11 = .ok (.getfield 7, 3) := by decide +kernel
theorem dX5_lastShut_14 : decode cX5_lastShut 14 = .ok (.bipush 58, 2) := by decide +kernel
theorem dX5_lastShut_16 : decode cX5_lastShut 16 = .ok (.iload_n 1, 1) := by decide +kernel
theorem dX5_lastShut_17 : decode cX5_lastShut 17 = .ok (.iadd, 1) := by decide +kernel
theorem dX5_lastShut_18 : decode cX5_lastShut 18 = .ok (.iload_n 2, 1) := by decide +kernel
theorem dX5_lastShut_19 : decode cX5_lastShut 19 = .ok (.iastore, 1) := by decide +kernel
theorem dX5_lastShut_20 : decode cX5_lastShut 20 = .ok (.aload_n 0, 1) := by decide +kernel
theorem dX5_lastShut_21 : decode cX5_lastShut 21 = .ok (.invokevirtual 152, 3) := by decide +kernel
theorem dX5_lastShut_24 : decode cX5_lastShut 24 = .ok (.istore 4, 2) := by decide +kernel
theorem dX5_lastShut_26 : decode cX5_lastShut 26 = .ok (.aload_n 0, 1) := by decide +kernel
theorem dX5_lastShut_27 : decode cX5_lastShut 27 = .ok (.getfield 7, 3) := by decide +kernel
theorem dX5_lastShut_30 : decode cX5_lastShut 30 = .ok (.bipush 58, 2) := by decide +kernel
theorem dX5_lastShut_32 : decode cX5_lastShut 32 = .ok (.iload_n 1, 1) := by decide +kernel
theorem dX5_lastShut_33 : decode cX5_lastShut 33 = .ok (.iadd, 1) := by decide +kernel
theorem dX5_lastShut_34 : decode cX5_lastShut 34 = .ok (.iload_n 3, 1) := by decide +kernel
theorem dX5_lastShut_35 : decode cX5_lastShut 35 = .ok (.iastore, 1) := by decide +kernel
theorem dX5_lastShut_36 : decode cX5_lastShut 36 = .ok (.iload 4, 2) := by decide +kernel
theorem dX5_lastShut_38 : decode cX5_lastShut 38 = .ok (.ireturn, 1) := by decide +kernel
theorem dX5_needed_0 : decode cX5_needed 0 = .ok (.aload_n 0, 1) := by decide +kernel
theorem dX5_needed_1 : decode cX5_needed 1 = .ok (.invokevirtual 152, 3) := by decide +kernel
theorem dX5_needed_4 : decode cX5_needed 4 = .ok (.istore_n 1, 1) := by decide +kernel
theorem dX5_needed_5 : decode cX5_needed 5 = .ok (.iload_n 1, 1) := by decide +kernel
theorem dX5_needed_6 : decode cX5_needed 6 = .ok (.ifCond .ge 6, 3) := by decide +kernel
theorem dX5_needed_9 : decode cX5_needed 9 = .ok (.bipush (-6), 2) := by decide +kernel
theorem dX5_needed_11 : decode cX5_needed 11 = .ok (.ireturn, 1) := by decide +kernel
theorem dX5_needed_12 : decode cX5_needed 12 = .ok (.iconst 0, 1) := by decide +kernel
theorem dX5_needed_13 : decode cX5_needed 13 = .ok (.istore_n 2, 1) := by decide +kernel
theorem dX5_needed_14 : decode cX5_needed 14 = .ok (.iconst 0, 1) := by decide +kernel
theorem dX5_needed_15 : decode cX5_needed 15 = .ok (.istore_n 3, 1) := by decide +kernel
theorem dX5_needed_16 : decode cX5_needed 16 = .ok (.iload_n 3, 1) := by decide +kernel
theorem dX5_needed_17 : decode cX5_needed 17 = .ok (.aload_n 0, 1) := by decide +kernel
theorem dX5_needed_18 : decode cX5_needed 18 = .ok (.invokevirtual 54, 3) := by decide +kernel
theorem dX5_needed_21 : decode cX5_needed 21 = .ok (.if_icmp .ge 38, 3) := by decide +kernel
theorem dX5_needed_24 : decode cX5_needed 24 = .ok (.aload_n 0, 1) := by decide +kernel
theorem dX5_needed_25 : decode cX5_needed 25 = .ok (.iload_n 3, 1) := by decide +kernel
theorem dX5_needed_26 : decode cX5_needed 26 = .ok (.iconst 0, 1) := by decide +kernel
theorem dX5_needed_27 : decode cX5_needed 27 = .ok (.invokevirtual 155, 3) := by decide +kernel
theorem dX5_needed_30 : decode cX5_needed 30 = .ok (.istore 4, 2) := by decide +kernel
theorem dX5_needed_32 : decode cX5_needed 32 = .ok (.iload_n 2, 1) := by decide +kernel
theorem dX5_needed_33 : decode cX5_needed 33 = .ok (.iload 4, 2) := by decide +kernel
theorem dX5_needed_35 : decode cX5_needed 35 = .ok (.ifCond .lt 9, 3) := by decide +kernel
theorem dX5_needed_38 : decode cX5_needed 38 = .ok (.iload 4, 2) := by decide +kernel
theorem dX5_needed_40 : decode cX5_needed 40 = .ok (.iload_n 1, 1) := by decide +kernel
theorem dX5_needed_41 : decode cX5_needed 41 = .ok (.if_icmp .le 9, 3) := by decide +kernel
theorem dX5_needed_44 : decode cX5_needed 44 = .ok (.iconst 1, 1) := by decide +kernel
theorem dX5_needed_45 : decode cX5_needed 45 = .ok (.iload_n 3, 1) := by decide +kernel
theorem dX5_needed_46 : decode cX5_needed 46 = .ok (.ishl, 1) := by decide +kernel
theorem dX5_needed_47 : decode cX5_needed 47 = .ok (.goto 4, 3) := by decide +kernel
theorem dX5_needed_50 : decode cX5_needed 50 = .ok (.iconst 0, 1) := by decide +kernel
theorem dX5_needed_51 : decode cX5_needed 51 = .ok (.ior, 1) := by decide +kernel
theorem dX5_needed_52 : decode cX5_needed 52 = .ok (.istore_n 2, 1) := by decide +kernel
theorem dX5_needed_53 : decode cX5_needed 53 = .ok (.iinc 3 1, 3) := by decide +kernel
theorem dX5_needed_56 : decode cX5_needed 56 = .ok (.goto (-40), 3) := by decide +kernel
theorem dX5_needed_59 : decode cX5_needed 59 = .ok (.iload_n 2, 1) := by decide +kernel
theorem dX5_needed_60 : decode cX5_needed 60 = .ok (.ireturn, 1) := by decide +kernel
theorem dX5_door_0 : decode cX5_door 0 = .ok (.aload_n 0, 1) := by decide +kernel
theorem dX5_door_1 : decode cX5_door 1 = .ok (.iload_n 1, 1) := by decide +kernel
theorem dX5_door_2 : decode cX5_door 2 = .ok (.invokevirtual 66, 3) := by decide +kernel
theorem dX5_door_5 : decode cX5_door 5 = .ok (.ifCond .ne 5, 3) := by decide +kernel
theorem dX5_door_8 : decode cX5_door 8 = .ok (.iconst (-1), 1) := by decide +kernel
theorem dX5_door_9 : decode cX5_door 9 = .ok (.ireturn, 1) := by decide +kernel
theorem dX5_door_10 : decode cX5_door 10 = .ok (.aload_n 0, 1) := by decide +kernel
theorem dX5_door_11 : decode cX5_door 11 = .ok (.invokevirtual 152, 3) := by decide +kernel
theorem dX5_door_14 : decode cX5_door 14 = .ok (.istore_n 2, 1) := by decide +kernel
theorem dX5_door_15 : decode cX5_door 15 = .ok (.iload_n 2, 1) := by decide +kernel
theorem dX5_door_16 : decode cX5_door 16 = .ok (.ifCond .ge 6, 3) := by decide +kernel
theorem dX5_door_19 : decode cX5_door 19 = .ok (.bipush (-6), 2) := by decide +kernel
theorem dX5_door_21 : decode cX5_door 21 = .ok (.ireturn, 1) := by decide +kernel
theorem dX5_door_22 : decode cX5_door 22 = .ok (.iconst (-1), 1) := by decide +kernel
theorem dX5_door_23 : decode cX5_door 23 = .ok (.istore_n 3, 1) := by decide +kernel
theorem dX5_door_24 : decode cX5_door 24 = .ok (.bipush 61, 2) := by decide +kernel
theorem dX5_door_26 : decode cX5_door 26 = .ok (.istore 4, 2) := by decide +kernel
theorem dX5_door_28 : decode cX5_door 28 = .ok (.iload 4, 2) := by decide +kernel
theorem dX5_door_30 : decode cX5_door 30 = .ok (.iload_n 3, 1) := by decide +kernel
theorem dX5_door_31 : decode cX5_door 31 = .ok (.isub, 1) := by decide +kernel
theorem dX5_door_32 : decode cX5_door 32 = .ok (.iconst 1, 1) := by decide +kernel
theorem dX5_door_33 : decode cX5_door 33 = .ok (.if_icmp .le 44, 3) := by decide +kernel
theorem dX5_door_36 : decode cX5_door 36 = .ok (.iload 4, 2) := by decide +kernel
theorem dX5_door_38 : decode cX5_door 38 = .ok (.iload_n 3, 1) := by decide +kernel
theorem dX5_door_39 : decode cX5_door 39 = .ok (.iadd, 1) := by decide +kernel
theorem dX5_door_40 : decode cX5_door 40 = .ok (.iconst 2, 1) := by decide +kernel
theorem dX5_door_41 : decode cX5_door 41 = .ok (.idiv, 1) := by decide +kernel
theorem dX5_door_42 : decode cX5_door 42 = .ok (.istore 5, 2) := by decide +kernel
theorem dX5_door_44 : decode cX5_door 44 = .ok (.aload_n 0, 1) := by decide +kernel
theorem dX5_door_45 : decode cX5_door 45 = .ok (.iload_n 1, 1) := by decide +kernel
theorem dX5_door_46 : decode cX5_door 46 = .ok (.iload 5, 2) := by decide +kernel
theorem dX5_door_48 : decode cX5_door 48 = .ok (.invokevirtual 155, 3) := by decide +kernel
theorem dX5_door_51 : decode cX5_door 51 = .ok (.istore 6, 2) := by decide +kernel
theorem dX5_door_53 : decode cX5_door 53 = .ok (.iload 6, 2) := by decide +kernel
theorem dX5_door_55 : decode cX5_door 55 = .ok (.ifCond .lt 9, 3) := by decide +kernel
theorem dX5_door_58 : decode cX5_door 58 = .ok (.iload 6, 2) := by decide +kernel
theorem dX5_door_60 : decode cX5_door 60 = .ok (.iload_n 2, 1) := by decide +kernel
theorem dX5_door_61 : decode cX5_door 61 = .ok (.if_icmp .le 9, 3) := by decide +kernel
theorem dX5_door_64 : decode cX5_door 64 = .ok (.iload 5, 2) := by decide +kernel
theorem dX5_door_66 : decode cX5_door 66 = .ok (.istore_n 3, 1) := by decide +kernel
theorem dX5_door_67 : decode cX5_door 67 = .ok (.goto 7, 3) := by decide +kernel
theorem dX5_door_70 : decode cX5_door 70 = .ok (.iload 5, 2) := by decide +kernel
theorem dX5_door_72 : decode cX5_door 72 = .ok (.istore 4, 2) := by decide +kernel
theorem dX5_door_74 : decode cX5_door 74 = .ok (.goto (-46), 3) := by decide +kernel
theorem dX5_door_77 : decode cX5_door 77 = .ok (.iload 4, 2) := by decide +kernel
theorem dX5_door_79 : decode cX5_door 79 = .ok (.bipush 60, 2) := by decide +kernel
theorem dX5_door_81 : decode cX5_door 81 = .ok (.if_icmp .gt 19, 3) := by decide +kernel
theorem dX5_door_84 : decode cX5_door 84 = .ok (.aload_n 0, 1) := by decide +kernel
theorem dX5_door_85 : decode cX5_door 85 = .ok (.iload_n 1, 1) := by decide +kernel
theorem dX5_door_86 : decode cX5_door 86 = .ok (.iload 4, 2) := by decide +kernel
theorem dX5_door_88 : decode cX5_door 88 = .ok (.invokevirtual 155, 3) := by decide +kernel
theorem dX5_door_91 : decode cX5_door 91 = .ok (.iload_n 2, 1) := by decide +kernel
theorem dX5_door_92 : decode cX5_door 92 = .ok (.if_icmp .ne 8, 3) := by decide +kernel
theorem dX5_door_95 : decode cX5_door 95 = .ok (.iload 4, 2) := by decide +kernel
theorem dX5_door_97 : decode cX5_door 97 = .ok (.goto 5, 3) := by decide +kernel
theorem dX5_door_100 : decode cX5_door 100 = .ok (.bipush (-6), 2) := by decide +kernel
theorem dX5_door_102 : decode cX5_door 102 = .ok (.ireturn, 1) := by decide +kernel
theorem dX5_isOpen_0 : decode cX5_isOpen 0 = .ok (.iload_n 2, 1) := by decide +kernel
theorem dX5_isOpen_1 : decode cX5_isOpen 1 = .ok (.aload_n 0, 1) := by decide +kernel
theorem dX5_isOpen_2 : decode cX5_isOpen 2 = .ok (.getfield 7, 3) := by decide +kernel
theorem dX5_isOpen_5 : decode cX5_isOpen 5 = .ok (.bipush 58, 2) := by decide +kernel
theorem dX5_isOpen_7 : decode cX5_isOpen 7 = .ok (.iload_n 1, 1) := by decide +kernel
theorem dX5_isOpen_8 : decode cX5_isOpen 8 = .ok (.iadd, 1) := by decide +kernel
theorem dX5_isOpen_9 : decode cX5_isOpen 9 = .ok (.iaload, 1) := by decide +kernel
theorem dX5_isOpen_10 : decode cX5_isOpen 10 = .ok (.if_icmp .ge 7, 3) := by decide +kernel
theorem dX5_isOpen_13 : decode cX5_isOpen 13 = .ok (.iconst 1, 1) := by decide +kernel
theorem dX5_isOpen_14 : decode cX5_isOpen 14 = .ok (.goto 4, 3) := by decide +kernel
theorem dX5_isOpen_17 : decode cX5_isOpen 17 = .ok (.iconst 0, 1) := by decide +kernel
theorem dX5_isOpen_18 : decode cX5_isOpen 18 = .ok (.ireturn, 1) := by decide +kernel
theorem dX5_layFar_0 : decode cX5_layFar 0 = .ok (.iconst 0, 1) := by decide +kernel
theorem dX5_layFar_1 : decode cX5_layFar 1 = .ok (.istore_n 2, 1) := by decide +kernel
theorem dX5_layFar_2 : decode cX5_layFar 2 = .ok (.iload_n 2, 1) := by decide +kernel
theorem dX5_layFar_3 : decode cX5_layFar 3 = .ok (.bipush 6, 2) := by decide +kernel
theorem dX5_layFar_5 : decode cX5_layFar 5 = .ok (.if_icmp .ge 30, 3) := by decide +kernel
theorem dX5_layFar_8 : decode cX5_layFar 8 = .ok (.aload_n 0, 1) := by decide +kernel
theorem dX5_layFar_9 : decode cX5_layFar 9 = .ok (.getfield 47, 3) := by decide +kernel
theorem dX5_layFar_12 : decode cX5_layFar 12 = .ok (.iload_n 2, 1) := by decide +kernel
theorem dX5_layFar_13 : decode cX5_layFar 13 = .ok (.aload_n 0, 1) := by decide +kernel
theorem dX5_layFar_14 : decode cX5_layFar 14 = .ok (.iload_n 2, 1) := by decide +kernel
theorem dX5_layFar_15 : decode cX5_layFar 15 = .ok (.invokevirtual 102, 3) := by decide +kernel
theorem dX5_layFar_18 : decode cX5_layFar 18 = .ok (.ifCond .eq 7, 3) := by decide +kernel
theorem dX5_layFar_21 : decode cX5_layFar 21 = .ok (.iconst 0, 1) := by decide +kernel
theorem dX5_layFar_22 : decode cX5_layFar 22 = .ok (.goto 6, 3) := by decide +kernel
theorem dX5_layFar_25 : decode cX5_layFar 25 = .ok (.sipush 1000, 3) := by decide +kernel
theorem dX5_layFar_28 : decode cX5_layFar 28 = .ok (.iastore, 1) := by decide +kernel
theorem dX5_layFar_29 : decode cX5_layFar 29 = .ok (.iinc 2 1, 3) := by decide +kernel
theorem dX5_layFar_32 : decode cX5_layFar 32 = .ok (.goto (-30), 3) := by decide +kernel
theorem dX5_layFar_35 : decode cX5_layFar 35 = .ok (.iconst 0, 1) := by decide +kernel
theorem dX5_layFar_36 : decode cX5_layFar 36 = .ok (.istore_n 2, 1) := by decide +kernel
theorem dX5_layFar_37 : decode cX5_layFar 37 = .ok (.iload_n 2, 1) := by decide +kernel
theorem dX5_layFar_38 : decode cX5_layFar 38 = .ok (.bipush 6, 2) := by decide +kernel
theorem dX5_layFar_40 : decode cX5_layFar 40 = .ok (.if_icmp .ge 111, 3) := by decide +kernel
theorem dX5_layFar_43 : decode cX5_layFar 43 = .ok (.iconst 0, 1) := by decide +kernel
theorem dX5_layFar_44 : decode cX5_layFar 44 = .ok (.istore_n 3, 1) := by decide +kernel
theorem dX5_layFar_45 : decode cX5_layFar 45 = .ok (.iload_n 3, 1) := by decide +kernel
theorem dX5_layFar_46 : decode cX5_layFar 46 = .ok (.aload_n 0, 1) := by decide +kernel
theorem dX5_layFar_47 : decode cX5_layFar 47 = .ok (.invokevirtual 54, 3) := by decide +kernel
theorem dX5_layFar_50 : decode cX5_layFar 50 = .ok (.if_icmp .ge 95, 3) := by decide +kernel
theorem dX5_layFar_53 : decode cX5_layFar 53 = .ok (.aload_n 0, 1) := by decide +kernel
theorem dX5_layFar_54 : decode cX5_layFar 54 = .ok (.getfield 47, 3) := by decide +kernel
theorem dX5_layFar_57 : decode cX5_layFar 57 = .ok (.aload_n 0, 1) := by decide +kernel
theorem dX5_layFar_58 : decode cX5_layFar 58 = .ok (.getfield 7, 3) := by decide +kernel
theorem dX5_layFar_61 : decode cX5_layFar 61 = .ok (.bipush 28, 2) := by decide +kernel
theorem dX5_layFar_63 : decode cX5_layFar 63 = .ok (.iload_n 3, 1) := by decide +kernel
theorem dX5_layFar_64 : decode cX5_layFar 64 = .ok (.iadd, 1) := by decide +kernel
theorem dX5_layFar_65 : decode cX5_layFar 65 = .ok (.iaload, 1) := by decide +kernel
theorem dX5_layFar_66 : decode cX5_layFar 66 = .ok (.iaload, 1) := by decide +kernel
theorem dX5_layFar_67 : decode cX5_layFar 67 = .ok (.aload_n 0, 1) := by decide +kernel
theorem dX5_layFar_68 : decode cX5_layFar 68 = .ok (.getfield 7, 3) := by decide +kernel
theorem dX5_layFar_71 : decode cX5_layFar 71 = .ok (.bipush 48, 2) := by decide +kernel
theorem dX5_layFar_73 : decode cX5_layFar 73 = .ok (.iload_n 3, 1) := by decide +kernel
theorem dX5_layFar_74 : decode cX5_layFar 74 = .ok (.iadd, 1) := by decide +kernel
theorem dX5_layFar_75 : decode cX5_layFar 75 = .ok (.iaload, 1) := by decide +kernel
theorem dX5_layFar_76 : decode cX5_layFar 76 = .ok (.iadd, 1) := by decide +kernel
theorem dX5_layFar_77 : decode cX5_layFar 77 = .ok (.istore 4, 2) := by decide +kernel
theorem dX5_layFar_79 : decode cX5_layFar 79 = .ok (.aload_n 0, 1) := by decide +kernel
theorem dX5_layFar_80 : decode cX5_layFar 80 = .ok (.getfield 7, 3) := by decide +kernel
theorem dX5_layFar_83 : decode cX5_layFar 83 = .ok (.bipush 18, 2) := by decide +kernel
theorem dX5_layFar_85 : decode cX5_layFar 85 = .ok (.iload_n 3, 1) := by decide +kernel
theorem dX5_layFar_86 : decode cX5_layFar 86 = .ok (.iadd, 1) := by decide +kernel
theorem dX5_layFar_87 : decode cX5_layFar 87 = .ok (.iaload, 1) := by decide +kernel
theorem dX5_layFar_88 : decode cX5_layFar 88 = .ok (.istore 5, 2) := by decide +kernel
theorem dX5_layFar_90 : decode cX5_layFar 90 = .ok (.aload_n 0, 1) := by decide +kernel
theorem dX5_layFar_91 : decode cX5_layFar 91 = .ok (.getfield 47, 3) := by decide +kernel
theorem dX5_layFar_94 : decode cX5_layFar 94 = .ok (.iload 5, 2) := by decide +kernel
theorem dX5_layFar_96 : decode cX5_layFar 96 = .ok (.aload_n 0, 1) := by decide +kernel
theorem dX5_layFar_97 : decode cX5_layFar 97 = .ok (.iload_n 3, 1) := by decide +kernel
theorem dX5_layFar_98 : decode cX5_layFar 98 = .ok (.iload_n 1, 1) := by decide +kernel
theorem dX5_layFar_99 : decode cX5_layFar 99 = .ok (.invokevirtual 159, 3) := by decide +kernel
theorem dX5_layFar_102 : decode cX5_layFar 102 = .ok (.ifCond .eq 29, 3) := by decide +kernel
theorem dX5_layFar_105 : decode cX5_layFar 105 = .ok (.aload_n 0, 1) := by decide +kernel
theorem dX5_layFar_106 : decode cX5_layFar 106 = .ok (.iload 5, 2) := by decide +kernel
theorem dX5_layFar_108 : decode cX5_layFar 108 = .ok (.invokevirtual 102, 3) := by decide +kernel
theorem dX5_layFar_111 : decode cX5_layFar 111 = .ok (.ifCond .ne 20, 3) := by decide +kernel
theorem dX5_layFar_114 : decode cX5_layFar 114 = .ok (.iload 4, 2) := by decide +kernel
theorem dX5_layFar_116 : decode cX5_layFar 116 = .ok (.aload_n 0, 1) := by decide +kernel
theorem dX5_layFar_117 : decode cX5_layFar 117 = .ok (.getfield 47, 3) := by decide +kernel
theorem dX5_layFar_120 : decode cX5_layFar 120 = .ok (.iload 5, 2) := by decide +kernel
theorem dX5_layFar_122 : decode cX5_layFar 122 = .ok (.iaload, 1) := by decide +kernel
theorem dX5_layFar_123 : decode cX5_layFar 123 = .ok (.if_icmp .ge 8, 3) := by decide +kernel
theorem dX5_layFar_126 : decode cX5_layFar 126 = .ok (.iload 4, 2) := by decide +kernel
theorem dX5_layFar_128 : decode cX5_layFar 128 = .ok (.goto 10, 3) := by decide +kernel
theorem dX5_layFar_131 : decode cX5_layFar 131 = .ok (.aload_n 0, 1) := by decide +kernel
theorem dX5_layFar_132 : decode cX5_layFar 132 = .ok (.getfield 47, 3) := by decide +kernel
theorem dX5_layFar_135 : decode cX5_layFar 135 = .ok (.iload 5, 2) := by decide +kernel
theorem dX5_layFar_137 : decode cX5_layFar 137 = .ok (.iaload, 1) := by decide +kernel
theorem dX5_layFar_138 : decode cX5_layFar 138 = .ok (.iastore, 1) := by decide +kernel
theorem dX5_layFar_139 : decode cX5_layFar 139 = .ok (.iinc 3 1, 3) := by decide +kernel
theorem dX5_layFar_142 : decode cX5_layFar 142 = .ok (.goto (-97), 3) := by decide +kernel
theorem dX5_layFar_145 : decode cX5_layFar 145 = .ok (.iinc 2 1, 3) := by decide +kernel
theorem dX5_layFar_148 : decode cX5_layFar 148 = .ok (.goto (-111), 3) := by decide +kernel
theorem dX5_layFar_151 : decode cX5_layFar 151 = .ok (.return_, 1) := by decide +kernel
theorem dX5_rushBy_0 : decode cX5_rushBy 0 = .ok (.bipush (-6), 2) := by decide +kernel
theorem dX5_rushBy_2 : decode cX5_rushBy 2 = .ok (.istore_n 3, 1) := by decide +kernel
theorem dX5_rushBy_3 : decode cX5_rushBy 3 = .ok (.sipush 1000, 3) := by decide +kernel
theorem dX5_rushBy_6 : decode cX5_rushBy 6 = .ok (.istore 4, 2) := by decide +kernel
theorem dX5_rushBy_8 : decode cX5_rushBy 8 = .ok (.iconst 0, 1) := by decide +kernel
theorem dX5_rushBy_9 : decode cX5_rushBy 9 = .ok (.istore 5, 2) := by decide +kernel
theorem dX5_rushBy_11 : decode cX5_rushBy 11 = .ok (.iload 5, 2) := by decide +kernel
theorem dX5_rushBy_13 : decode cX5_rushBy 13 = .ok (.aload_n 0, 1) := by decide +kernel
theorem dX5_rushBy_14 : decode cX5_rushBy 14 = .ok (.invokevirtual 54, 3) := by decide +kernel
theorem dX5_rushBy_17 : decode cX5_rushBy 17 = .ok (.if_icmp .ge 75, 3) := by decide +kernel
theorem dX5_rushBy_20 : decode cX5_rushBy 20 = .ok (.aload_n 0, 1) := by decide +kernel
theorem dX5_rushBy_21 : decode cX5_rushBy 21 = .ok (.getfield 47, 3) := by decide +kernel
theorem dX5_rushBy_24 : decode cX5_rushBy 24 = .ok (.aload_n 0, 1) := by decide +kernel
theorem dX5_rushBy_25 : decode cX5_rushBy 25 = .ok (.getfield 7, 3) := by decide +kernel
theorem dX5_rushBy_28 : decode cX5_rushBy 28 = .ok (.bipush 28, 2) := by decide +kernel
theorem dX5_rushBy_30 : decode cX5_rushBy 30 = .ok (.iload 5, 2) := by decide +kernel
theorem dX5_rushBy_32 : decode cX5_rushBy 32 = .ok (.iadd, 1) := by decide +kernel
theorem dX5_rushBy_33 : decode cX5_rushBy 33 = .ok (.iaload, 1) := by decide +kernel
theorem dX5_rushBy_34 : decode cX5_rushBy 34 = .ok (.iaload, 1) := by decide +kernel
theorem dX5_rushBy_35 : decode cX5_rushBy 35 = .ok (.aload_n 0, 1) := by decide +kernel
theorem dX5_rushBy_36 : decode cX5_rushBy 36 = .ok (.getfield 7, 3) := by decide +kernel
theorem dX5_rushBy_39 : decode cX5_rushBy 39 = .ok (.bipush 48, 2) := by decide +kernel
theorem dX5_rushBy_41 : decode cX5_rushBy 41 = .ok (.iload 5, 2) := by decide +kernel
theorem dX5_rushBy_43 : decode cX5_rushBy 43 = .ok (.iadd, 1) := by decide +kernel
theorem dX5_rushBy_44 : decode cX5_rushBy 44 = .ok (.iaload, 1) := by decide +kernel
theorem dX5_rushBy_45 : decode cX5_rushBy 45 = .ok (.iadd, 1) := by decide +kernel
theorem dX5_rushBy_46 : decode cX5_rushBy 46 = .ok (.istore 6, 2) := by decide +kernel
theorem dX5_rushBy_48 : decode cX5_rushBy 48 = .ok (.aload_n 0, 1) := by decide +kernel
theorem dX5_rushBy_49 : decode cX5_rushBy 49 = .ok (.getfield 7, 3) := by decide +kernel
theorem dX5_rushBy_52 : decode cX5_rushBy 52 = .ok (.bipush 18, 2) := by decide +kernel
theorem dX5_rushBy_54 : decode cX5_rushBy 54 = .ok (.iload 5, 2) := by decide +kernel
theorem dX5_rushBy_56 : decode cX5_rushBy 56 = .ok (.iadd, 1) := by decide +kernel
theorem dX5_rushBy_57 : decode cX5_rushBy 57 = .ok (.iaload, 1) := by decide +kernel
theorem dX5_rushBy_58 : decode cX5_rushBy 58 = .ok (.iload_n 1, 1) := by decide +kernel
theorem dX5_rushBy_59 : decode cX5_rushBy 59 = .ok (.if_icmp .ne 27, 3) := by decide +kernel
theorem dX5_rushBy_62 : decode cX5_rushBy 62 = .ok (.aload_n 0, 1) := by decide +kernel
theorem dX5_rushBy_63 : decode cX5_rushBy 63 = .ok (.iload 5, 2) := by decide +kernel
theorem dX5_rushBy_65 : decode cX5_rushBy 65 = .ok (.iload_n 2, 1) := by decide +kernel
theorem dX5_rushBy_66 : decode cX5_rushBy 66 = .ok (.invokevirtual 159, 3) := by decide +kernel
theorem dX5_rushBy_69 : decode cX5_rushBy 69 = .ok (.ifCond .eq 17, 3) := by decide +kernel
theorem dX5_rushBy_72 : decode cX5_rushBy 72 = .ok (.iload 6, 2) := by decide +kernel
theorem dX5_rushBy_74 : decode cX5_rushBy 74 = .ok (.iload 4, 2) := by decide +kernel
theorem dX5_rushBy_76 : decode cX5_rushBy 76 = .ok (.if_icmp .ge 10, 3) := by decide +kernel
theorem dX5_rushBy_79 : decode cX5_rushBy 79 = .ok (.iload 6, 2) := by decide +kernel
theorem dX5_rushBy_81 : decode cX5_rushBy 81 = .ok (.istore 4, 2) := by decide +kernel
theorem dX5_rushBy_83 : decode cX5_rushBy 83 = .ok (.iload 5, 2) := by decide +kernel
theorem dX5_rushBy_85 : decode cX5_rushBy 85 = .ok (.istore_n 3, 1) := by decide +kernel
theorem dX5_rushBy_86 : decode cX5_rushBy 86 = .ok (.iinc 5 1, 3) := by decide +kernel
theorem dX5_rushBy_89 : decode cX5_rushBy 89 = .ok (.goto (-78), 3) := by decide +kernel
theorem dX5_rushBy_92 : decode cX5_rushBy 92 = .ok (.iload_n 3, 1) := by decide +kernel
theorem dX5_rushBy_93 : decode cX5_rushBy 93 = .ok (.ireturn, 1) := by decide +kernel
theorem dX5_rushTick_0 : decode cX5_rushTick 0 = .ok (.iconst 0, 1) := by decide +kernel
theorem dX5_rushTick_1 : decode cX5_rushTick 1 = .ok (.istore_n 2, 1) := by decide +kernel
theorem dX5_rushTick_2 : decode cX5_rushTick 2 = .ok (.iload_n 2, 1) := by decide +kernel
theorem dX5_rushTick_3 : decode cX5_rushTick 3 = .ok (.bipush 6, 2) := by decide +kernel
theorem dX5_rushTick_5 : decode cX5_rushTick 5 = .ok (.if_icmp .ge 43, 3) := by decide +kernel
theorem dX5_rushTick_8 : decode cX5_rushTick 8 = .ok (.aload_n 0, 1) := by decide +kernel
theorem dX5_rushTick_9 : decode cX5_rushTick 9 = .ok (.getfield 41, 3) := by decide +kernel
theorem dX5_rushTick_12 : decode cX5_rushTick 12 = .ok (.iload_n 2, 1) := by decide +kernel
theorem dX5_rushTick_13 : decode cX5_rushTick 13 = .ok (.dup2, 1) := by decide +kernel
theorem dX5_rushTick_14 : decode cX5_rushTick 14 = .ok (.iaload, 1) := by decide +kernel
theorem dX5_rushTick_15 : decode cX5_rushTick 15 = .ok (.aload_n 0, 1) := by decide +kernel
theorem dX5_rushTick_16 : decode cX5_rushTick 16 = .ok (.getfield 44, 3) := by decide +kernel
theorem dX5_rushTick_19 : decode cX5_rushTick 19 = .ok (.iconst 5, 1) := by decide +kernel
theorem dX5_rushTick_20 : decode cX5_rushTick 20 = .ok (.iload_n 2, 1) := by decide +kernel
theorem dX5_rushTick_21 : decode cX5_rushTick 21 = .ok (.imul, 1) := by decide +kernel
theorem dX5_rushTick_22 : decode cX5_rushTick 22 = .ok (.iload_n 1, 1) := by decide +kernel
theorem dX5_rushTick_23 : decode cX5_rushTick 23 = .ok (.iconst 5, 1) := by decide +kernel
theorem dX5_rushTick_24 : decode cX5_rushTick 24 = .ok (.irem, 1) := by decide +kernel
theorem dX5_rushTick_25 : decode cX5_rushTick 25 = .ok (.iadd, 1) := by decide +kernel
theorem dX5_rushTick_26 : decode cX5_rushTick 26 = .ok (.iaload, 1) := by decide +kernel
theorem dX5_rushTick_27 : decode cX5_rushTick 27 = .ok (.iadd, 1) := by decide +kernel
theorem dX5_rushTick_28 : decode cX5_rushTick 28 = .ok (.iastore, 1) := by decide +kernel
theorem dX5_rushTick_29 : decode cX5_rushTick 29 = .ok (.aload_n 0, 1) := by decide +kernel
theorem dX5_rushTick_30 : decode cX5_rushTick 30 = .ok (.getfield 44, 3) := by decide +kernel
theorem dX5_rushTick_33 : decode cX5_rushTick 33 = .ok (.iconst 5, 1) := by decide +kernel
theorem dX5_rushTick_34 : decode cX5_rushTick 34 = .ok (.iload_n 2, 1) := by decide +kernel
theorem dX5_rushTick_35 : decode cX5_rushTick 35 = .ok (.imul, 1) := by decide +kernel
theorem dX5_rushTick_36 : decode cX5_rushTick 36 = .ok (.iload_n 1, 1) := by decide +kernel
theorem dX5_rushTick_37 : decode cX5_rushTick 37 = .ok (.iconst 5, 1) := by decide +kernel
theorem dX5_rushTick_38 : decode cX5_rushTick 38 = .ok (.irem, 1) := by decide +kernel
theorem dX5_rushTick_39 : decode cX5_rushTick 39 = .ok (.iadd, 1) := by decide +kernel
theorem dX5_rushTick_40 : decode cX5_rushTick 40 = .ok (.iconst 0, 1) := by decide +kernel
theorem dX5_rushTick_41 : decode cX5_rushTick 41 = .ok (.iastore, 1) := by decide +kernel
theorem dX5_rushTick_42 : decode cX5_rushTick 42 = .ok (.iinc 2 1, 3) := by decide +kernel
theorem dX5_rushTick_45 : decode cX5_rushTick 45 = .ok (.goto (-43), 3) := by decide +kernel
theorem dX5_rushTick_48 : decode cX5_rushTick 48 = .ok (.aload_n 0, 1) := by decide +kernel
theorem dX5_rushTick_49 : decode cX5_rushTick 49 = .ok (.iload_n 1, 1) := by decide +kernel
theorem dX5_rushTick_50 : decode cX5_rushTick 50 = .ok (.invokevirtual 162, 3) := by decide +kernel
theorem dX5_rushTick_53 : decode cX5_rushTick 53 = .ok (.iconst 0, 1) := by decide +kernel
theorem dX5_rushTick_54 : decode cX5_rushTick 54 = .ok (.istore_n 2, 1) := by decide +kernel
theorem dX5_rushTick_55 : decode cX5_rushTick 55 = .ok (.iload_n 2, 1) := by decide +kernel
theorem dX5_rushTick_56 : decode cX5_rushTick 56 = .ok (.bipush 6, 2) := by decide +kernel
theorem dX5_rushTick_58 : decode cX5_rushTick 58 = .ok (.if_icmp .ge 117, 3) := by decide +kernel
theorem dX5_rushTick_61 : decode cX5_rushTick 61 = .ok (.aload_n 0, 1) := by decide +kernel
theorem dX5_rushTick_62 : decode cX5_rushTick 62 = .ok (.iload_n 2, 1) := by decide +kernel
theorem dX5_rushTick_63 : decode cX5_rushTick 63 = .ok (.invokevirtual 102, 3) := by decide +kernel
theorem dX5_rushTick_66 : decode cX5_rushTick 66 = .ok (.ifCond .eq 8, 3) := by decide +kernel
theorem dX5_rushTick_69 : decode cX5_rushTick 69 = .ok (.bipush (-6), 2) := by decide +kernel
theorem dX5_rushTick_71 : decode cX5_rushTick 71 = .ok (.goto 9, 3) := by decide +kernel
theorem dX5_rushTick_74 : decode cX5_rushTick 74 = .ok (.aload_n 0, 1) := by decide +kernel
theorem dX5_rushTick_75 : decode cX5_rushTick 75 = .ok (.iload_n 2, 1) := by decide +kernel
theorem dX5_rushTick_76 : decode cX5_rushTick 76 = .ok (.iload_n 1, 1) := by decide +kernel
theorem dX5_rushTick_77 : decode cX5_rushTick 77 = .ok (.invokevirtual 165, 3) := by decide +kernel
theorem dX5_rushTick_80 : decode cX5_rushTick 80 = .ok (.istore_n 3, 1) := by decide +kernel
theorem dX5_rushTick_81 : decode cX5_rushTick 81 = .ok (.iload_n 3, 1) := by decide +kernel
theorem dX5_rushTick_82 : decode cX5_rushTick 82 = .ok (.ifCond .lt 87, 3) := by decide +kernel
theorem dX5_rushTick_85 : decode cX5_rushTick 85 = .ok (.aload_n 0, 1) := by decide +kernel
theorem dX5_rushTick_86 : decode cX5_rushTick 86 = .ok (.getfield 41, 3) := by decide +kernel
theorem dX5_rushTick_89 : decode cX5_rushTick 89 = .ok (.iload_n 2, 1) := by decide +kernel
theorem dX5_rushTick_90 : decode cX5_rushTick 90 = .ok (.iaload, 1) := by decide +kernel
theorem dX5_rushTick_91 : decode cX5_rushTick 91 = .ok (.aload_n 0, 1) := by decide +kernel
theorem dX5_rushTick_92 : decode cX5_rushTick 92 = .ok (.getfield 7, 3) := by decide +kernel
theorem dX5_rushTick_95 : decode cX5_rushTick 95 = .ok (.bipush 38, 2) := by decide +kernel
theorem dX5_rushTick_97 : decode cX5_rushTick 97 = .ok (.iload_n 3, 1) := by decide +kernel
theorem dX5_rushTick_98 : decode cX5_rushTick 98 = .ok (.iadd, 1) := by decide +kernel
theorem dX5_rushTick_99 : decode cX5_rushTick 99 = .ok (.iaload, 1) := by decide +kernel
theorem dX5_rushTick_100 : decode cX5_rushTick 100 = .ok (.if_icmp .ge 12, 3) := by decide +kernel
theorem dX5_rushTick_103 : decode cX5_rushTick 103 = .ok (.aload_n 0, 1) := by decide +kernel
theorem dX5_rushTick_104 : decode cX5_rushTick 104 = .ok (.getfield 41, 3) := by decide +kernel
theorem dX5_rushTick_107 : decode cX5_rushTick 107 = .ok (.iload_n 2, 1) := by decide +kernel
theorem dX5_rushTick_108 : decode cX5_rushTick 108 = .ok (.iaload, 1) := by decide +kernel
theorem dX5_rushTick_109 : decode cX5_rushTick 109 = .ok (.goto 12, 3) := by decide +kernel
theorem dX5_rushTick_112 : decode cX5_rushTick 112 = .ok (.aload_n 0, 1) := by decide +kernel
theorem dX5_rushTick_113 : decode cX5_rushTick 113 = .ok (.getfield 7, 3) := by decide +kernel
theorem dX5_rushTick_116 : decode cX5_rushTick 116 = .ok (.bipush 38, 2) := by decide +kernel
theorem dX5_rushTick_118 : decode cX5_rushTick 118 = .ok (.iload_n 3, 1) := by decide +kernel
theorem dX5_rushTick_119 : decode cX5_rushTick 119 = .ok (.iadd, 1) := by decide +kernel
theorem dX5_rushTick_120 : decode cX5_rushTick 120 = .ok (.iaload, 1) := by decide +kernel
theorem dX5_rushTick_121 : decode cX5_rushTick 121 = .ok (.istore 4, 2) := by decide +kernel
theorem dX5_rushTick_123 : decode cX5_rushTick 123 = .ok (.aload_n 0, 1) := by decide +kernel
theorem dX5_rushTick_124 : decode cX5_rushTick 124 = .ok (.getfield 41, 3) := by decide +kernel
theorem dX5_rushTick_127 : decode cX5_rushTick 127 = .ok (.iload_n 2, 1) := by decide +kernel
theorem dX5_rushTick_128 : decode cX5_rushTick 128 = .ok (.dup2, 1) := by decide +kernel
theorem dX5_rushTick_129 : decode cX5_rushTick 129 = .ok (.iaload, 1) := by decide +kernel
theorem dX5_rushTick_130 : decode cX5_rushTick 130 = .ok (.iload 4, 2) := by decide +kernel
theorem dX5_rushTick_132 : decode cX5_rushTick 132 = .ok (.isub, 1) := by decide +kernel
theorem dX5_rushTick_133 : decode cX5_rushTick 133 = .ok (.iastore, 1) := by decide +kernel
theorem dX5_rushTick_134 : decode cX5_rushTick 134 = .ok (.aload_n 0, 1) := by decide +kernel
theorem dX5_rushTick_135 : decode cX5_rushTick 135 = .ok (.getfield 44, 3) := by decide +kernel
theorem dX5_rushTick_138 : decode cX5_rushTick 138 = .ok (.iconst 5, 1) := by decide +kernel
theorem dX5_rushTick_139 : decode cX5_rushTick 139 = .ok (.aload_n 0, 1) := by decide +kernel
theorem dX5_rushTick_140 : decode cX5_rushTick 140 = .ok (.getfield 7, 3) := by decide +kernel
theorem dX5_rushTick_143 : decode cX5_rushTick 143 = .ok (.bipush 28, 2) := by decide +kernel
theorem dX5_rushTick_145 : decode cX5_rushTick 145 = .ok (.iload_n 3, 1) := by decide +kernel
theorem dX5_rushTick_146 : decode cX5_rushTick 146 = .ok (.iadd, 1) := by decide +kernel
theorem dX5_rushTick_147 : decode cX5_rushTick 147 = .ok (.iaload, 1) := by decide +kernel
theorem dX5_rushTick_148 : decode cX5_rushTick 148 = .ok (.imul, 1) := by decide +kernel
theorem dX5_rushTick_149 : decode cX5_rushTick 149 = .ok (.iload_n 1, 1) := by decide +kernel
theorem dX5_rushTick_150 : decode cX5_rushTick 150 = .ok (.aload_n 0, 1) := by decide +kernel
theorem dX5_rushTick_151 : decode cX5_rushTick 151 = .ok (.getfield 7, 3) := by decide +kernel
theorem dX5_rushTick_154 : decode cX5_rushTick 154 = .ok (.bipush 48, 2) := by decide +kernel
theorem dX5_rushTick_156 : decode cX5_rushTick 156 = .ok (.iload_n 3, 1) := by decide +kernel
theorem dX5_rushTick_157 : decode cX5_rushTick 157 = .ok (.iadd, 1) := by decide +kernel
theorem dX5_rushTick_158 : decode cX5_rushTick 158 = .ok (.iaload, 1) := by decide +kernel
theorem dX5_rushTick_159 : decode cX5_rushTick 159 = .ok (.iadd, 1) := by decide +kernel
theorem dX5_rushTick_160 : decode cX5_rushTick 160 = .ok (.iconst 5, 1) := by decide +kernel
theorem dX5_rushTick_161 : decode cX5_rushTick 161 = .ok (.irem, 1) := by decide +kernel
theorem dX5_rushTick_162 : decode cX5_rushTick 162 = .ok (.iadd, 1) := by decide +kernel
theorem dX5_rushTick_163 : decode cX5_rushTick 163 = .ok (.dup2, 1) := by decide +kernel
theorem dX5_rushTick_164 : decode cX5_rushTick 164 = .ok (.iaload, 1) := by decide +kernel
theorem dX5_rushTick_165 : decode cX5_rushTick 165 = .ok (.iload 4, 2) := by decide +kernel
theorem dX5_rushTick_167 : decode cX5_rushTick 167 = .ok (.iadd, 1) := by decide +kernel
theorem dX5_rushTick_168 : decode cX5_rushTick 168 = .ok (.iastore, 1) := by decide +kernel
theorem dX5_rushTick_169 : decode cX5_rushTick 169 = .ok (.iinc 2 1, 3) := by decide +kernel
theorem dX5_rushTick_172 : decode cX5_rushTick 172 = .ok (.goto (-117), 3) := by decide +kernel
theorem dX5_rushTick_175 : decode cX5_rushTick 175 = .ok (.return_, 1) := by decide +kernel
theorem dX5_safeHere_0 : decode cX5_safeHere 0 = .ok (.iconst 0, 1) := by decide +kernel
theorem dX5_safeHere_1 : decode cX5_safeHere 1 = .ok (.istore_n 1, 1) := by decide +kernel
theorem dX5_safeHere_2 : decode cX5_safeHere 2 = .ok (.iconst 0, 1) := by decide +kernel
theorem dX5_safeHere_3 : decode cX5_safeHere 3 = .ok (.istore_n 2, 1) := by decide +kernel
theorem dX5_safeHere_4 : decode cX5_safeHere 4 = .ok (.iload_n 2, 1) := by decide +kernel
theorem dX5_safeHere_5 : decode cX5_safeHere 5 = .ok (.bipush 6, 2) := by decide +kernel
theorem dX5_safeHere_7 : decode cX5_safeHere 7 = .ok (.if_icmp .ge 30, 3) := by decide +kernel
theorem dX5_safeHere_10 : decode cX5_safeHere 10 = .ok (.iload_n 1, 1) := by decide +kernel
theorem dX5_safeHere_11 : decode cX5_safeHere 11 = .ok (.aload_n 0, 1) := by decide +kernel
theorem dX5_safeHere_12 : decode cX5_safeHere 12 = .ok (.iload_n 2, 1) := by decide +kernel
theorem dX5_safeHere_13 : decode cX5_safeHere 13 = .ok (.invokevirtual 102, 3) := by decide +kernel
theorem dX5_safeHere_16 : decode cX5_safeHere 16 = .ok (.ifCond .eq 12, 3) := by decide +kernel
theorem dX5_safeHere_19 : decode cX5_safeHere 19 = .ok (.aload_n 0, 1) := by decide +kernel
theorem dX5_safeHere_20 : decode cX5_safeHere 20 = .ok (.getfield 41, 3) := by decide +kernel
theorem dX5_safeHere_23 : decode cX5_safeHere 23 = .ok (.iload_n 2, 1) := by decide +kernel
theorem dX5_safeHere_24 : decode cX5_safeHere 24 = .ok (.iaload, 1) := by decide +kernel
theorem dX5_safeHere_25 : decode cX5_safeHere 25 = .ok (.goto 4, 3) := by decide +kernel
theorem dX5_safeHere_28 : decode cX5_safeHere 28 = .ok (.iconst 0, 1) := by decide +kernel
theorem dX5_safeHere_29 : decode cX5_safeHere 29 = .ok (.iadd, 1) := by decide +kernel
theorem dX5_safeHere_30 : decode cX5_safeHere 30 = .ok (.istore_n 1, 1) := by decide +kernel
theorem dX5_safeHere_31 : decode cX5_safeHere 31 = .ok (.iinc 2 1, 3) := by decide +kernel
theorem dX5_safeHere_34 : decode cX5_safeHere 34 = .ok (.goto (-30), 3) := by decide +kernel
theorem dX5_safeHere_37 : decode cX5_safeHere 37 = .ok (.iload_n 1, 1) := by decide +kernel
theorem dX5_safeHere_38 : decode cX5_safeHere 38 = .ok (.ireturn, 1) := by decide +kernel
theorem dX5_beginRush_0 : decode cX5_beginRush 0 = .ok (.iconst 0, 1) := by decide +kernel
theorem dX5_beginRush_1 : decode cX5_beginRush 1 = .ok (.istore_n 1, 1) := by decide +kernel
theorem dX5_beginRush_2 : decode cX5_beginRush 2 = .ok (.iload_n 1, 1) := by decide +kernel
theorem dX5_beginRush_3 : decode cX5_beginRush 3 = .ok (.bipush 6, 2) := by decide +kernel
theorem dX5_beginRush_5 : decode cX5_beginRush 5 = .ok (.if_icmp .ge 23, 3) := by decide +kernel
theorem dX5_beginRush_8 : decode cX5_beginRush 8 = .ok (.aload_n 0, 1) := by decide +kernel
theorem dX5_beginRush_9 : decode cX5_beginRush 9 = .ok (.getfield 41, 3) := by decide +kernel
theorem dX5_beginRush_12 : decode cX5_beginRush 12 = .ok (.iload_n 1, 1) := by decide +kernel
theorem dX5_beginRush_13 : decode cX5_beginRush 13 = .ok (.aload_n 0, 1) := by decide +kernel
theorem dX5_beginRush_14 : decode cX5_beginRush 14 = .ok (.getfield 7, 3) := by decide +kernel
theorem dX5_beginRush_17 : decode cX5_beginRush 17 = .ok (.iconst 0, 1) := by decide +kernel
theorem dX5_beginRush_18 : decode cX5_beginRush 18 = .ok (.iload_n 1, 1) := by decide +kernel
theorem dX5_beginRush_19 : decode cX5_beginRush 19 = .ok (.iadd, 1) := by decide +kernel
theorem dX5_beginRush_20 : decode cX5_beginRush 20 = .ok (.iaload, 1) := by decide +kernel
theorem dX5_beginRush_21 : decode cX5_beginRush 21 = .ok (.iastore, 1) := by decide +kernel
theorem dX5_beginRush_22 : decode cX5_beginRush 22 = .ok (.iinc 1 1, 3) := by decide +kernel
theorem dX5_beginRush_25 : decode cX5_beginRush 25 = .ok (.goto (-23), 3) := by decide +kernel
theorem dX5_beginRush_28 : decode cX5_beginRush 28 = .ok (.iconst 0, 1) := by decide +kernel
theorem dX5_beginRush_29 : decode cX5_beginRush 29 = .ok (.istore_n 1, 1) := by decide +kernel
theorem dX5_beginRush_30 : decode cX5_beginRush 30 = .ok (.iload_n 1, 1) := by decide +kernel
theorem dX5_beginRush_31 : decode cX5_beginRush 31 = .ok (.bipush 30, 2) := by decide +kernel
theorem dX5_beginRush_33 : decode cX5_beginRush 33 = .ok (.if_icmp .ge 16, 3) := by decide +kernel
theorem dX5_beginRush_36 : decode cX5_beginRush 36 = .ok (.aload_n 0, 1) := by decide +kernel
theorem dX5_beginRush_37 : decode cX5_beginRush 37 = .ok (.getfield 44, 3) := by decide +kernel
theorem dX5_beginRush_40 : decode cX5_beginRush 40 = .ok (.iload_n 1, 1) := by decide +kernel
theorem dX5_beginRush_41 : decode cX5_beginRush 41 = .ok (.iconst 0, 1) := by decide +kernel
theorem dX5_beginRush_42 : decode cX5_beginRush 42 = .ok (.iastore, 1) := by decide +kernel
theorem dX5_beginRush_43 : decode cX5_beginRush 43 = .ok (.iinc 1 1, 3) := by decide +kernel
theorem dX5_beginRush_46 : decode cX5_beginRush 46 = .ok (.goto (-16), 3) := by decide +kernel
theorem dX5_beginRush_49 : decode cX5_beginRush 49 = .ok (.return_, 1) := by decide +kernel
theorem dX5_rush_0 : decode cX5_rush 0 = .ok (.iload_n 1, 1) := by decide +kernel
theorem dX5_rush_1 : decode cX5_rush 1 = .ok (.iconst 0, 1) := by decide +kernel
theorem dX5_rush_2 : decode cX5_rush 2 = .ok (.sipush 200, 3) := by decide +kernel
theorem dX5_rush_5 : decode cX5_rush 5 = .ok (.invokestatic 50, 3) := by decide +kernel
theorem dX5_rush_8 : decode cX5_rush 8 = .ok (.ifCond .ne 6, 3) := by decide +kernel
theorem dX5_rush_11 : decode cX5_rush 11 = .ok (.bipush (-2), 2) := by decide +kernel
theorem dX5_rush_13 : decode cX5_rush 13 = .ok (.ireturn, 1) := by decide +kernel
theorem dX5_rush_14 : decode cX5_rush 14 = .ok (.aload_n 0, 1) := by decide +kernel
theorem dX5_rush_15 : decode cX5_rush 15 = .ok (.invokevirtual 168, 3) := by decide +kernel
theorem dX5_rush_18 : decode cX5_rush 18 = .ok (.iconst 0, 1) := by decide +kernel
theorem dX5_rush_19 : decode cX5_rush 19 = .ok (.istore_n 2, 1) := by decide +kernel
theorem dX5_rush_20 : decode cX5_rush 20 = .ok (.iload_n 2, 1) := by decide +kernel
theorem dX5_rush_21 : decode cX5_rush 21 = .ok (.iload_n 1, 1) := by decide +kernel
theorem dX5_rush_22 : decode cX5_rush 22 = .ok (.if_icmp .gt 14, 3) := by decide +kernel
theorem dX5_rush_25 : decode cX5_rush 25 = .ok (.aload_n 0, 1) := by decide +kernel
theorem dX5_rush_26 : decode cX5_rush 26 = .ok (.iload_n 2, 1) := by decide +kernel
theorem dX5_rush_27 : decode cX5_rush 27 = .ok (.invokevirtual 171, 3) := by decide +kernel
theorem dX5_rush_30 : decode cX5_rush 30 = .ok (.iinc 2 1, 3) := by decide +kernel
theorem dX5_rush_33 : decode cX5_rush 33 = .ok (.goto (-13), 3) := by decide +kernel
theorem dX5_rush_36 : decode cX5_rush 36 = .ok (.aload_n 0, 1) := by decide +kernel
theorem dX5_rush_37 : decode cX5_rush 37 = .ok (.invokevirtual 174, 3) := by decide +kernel
theorem dX5_rush_40 : decode cX5_rush 40 = .ok (.ireturn, 1) := by decide +kernel
theorem dX5_rushed_0 : decode cX5_rushed 0 = .ok (.aload_n 0, 1) := by decide +kernel
theorem dX5_rushed_1 : decode cX5_rushed 1 = .ok (.invokevirtual 168, 3) := by decide +kernel
theorem dX5_rushed_4 : decode cX5_rushed 4 = .ok (.iconst 0, 1) := by decide +kernel
theorem dX5_rushed_5 : decode cX5_rushed 5 = .ok (.istore_n 1, 1) := by decide +kernel
theorem dX5_rushed_6 : decode cX5_rushed 6 = .ok (.iload_n 1, 1) := by decide +kernel
theorem dX5_rushed_7 : decode cX5_rushed 7 = .ok (.sipush 200, 3) := by decide +kernel
theorem dX5_rushed_10 : decode cX5_rushed 10 = .ok (.if_icmp .gt 27, 3) := by decide +kernel
theorem dX5_rushed_13 : decode cX5_rushed 13 = .ok (.aload_n 0, 1) := by decide +kernel
theorem dX5_rushed_14 : decode cX5_rushed 14 = .ok (.iload_n 1, 1) := by decide +kernel
theorem dX5_rushed_15 : decode cX5_rushed 15 = .ok (.invokevirtual 171, 3) := by decide +kernel
theorem dX5_rushed_18 : decode cX5_rushed 18 = .ok (.aload_n 0, 1) := by decide +kernel
theorem dX5_rushed_19 : decode cX5_rushed 19 = .ok (.invokevirtual 174, 3) := by decide +kernel
theorem dX5_rushed_22 : decode cX5_rushed 22 = .ok (.aload_n 0, 1) := by decide +kernel
theorem dX5_rushed_23 : decode cX5_rushed 23 = .ok (.invokevirtual 149, 3) := by decide +kernel
theorem dX5_rushed_26 : decode cX5_rushed 26 = .ok (.if_icmp .ne 5, 3) := by decide +kernel
theorem dX5_rushed_29 : decode cX5_rushed 29 = .ok (.iload_n 1, 1) := by decide +kernel
theorem dX5_rushed_30 : decode cX5_rushed 30 = .ok (.ireturn, 1) := by decide +kernel
theorem dX5_rushed_31 : decode cX5_rushed 31 = .ok (.iinc 1 1, 3) := by decide +kernel
theorem dX5_rushed_34 : decode cX5_rushed 34 = .ok (.goto (-28), 3) := by decide +kernel
theorem dX5_rushed_37 : decode cX5_rushed 37 = .ok (.bipush (-6), 2) := by decide +kernel
theorem dX5_rushed_39 : decode cX5_rushed 39 = .ok (.ireturn, 1) := by decide +kernel
theorem dX5_image_0 : decode cX5_image 0 = .ok (.iload_n 1, 1) := by decide +kernel
theorem dX5_image_1 : decode cX5_image 1 = .ok (.iconst 0, 1) := by decide +kernel
theorem dX5_image_2 : decode cX5_image 2 = .ok (.iconst 1, 1) := by decide +kernel
theorem dX5_image_3 : decode cX5_image 3 = .ok (.invokestatic 50, 3) := by decide +kernel
theorem dX5_image_6 : decode cX5_image 6 = .ok (.ifCond .ne 6, 3) := by decide +kernel
theorem dX5_image_9 : decode cX5_image 9 = .ok (.bipush (-2), 2) := by decide +kernel
theorem dX5_image_11 : decode cX5_image 11 = .ok (.ireturn, 1) := by decide +kernel
theorem dX5_image_12 : decode cX5_image 12 = .ok (.iconst 0, 1) := by decide +kernel
theorem dX5_image_13 : decode cX5_image 13 = .ok (.istore_n 2, 1) := by decide +kernel
theorem dX5_image_14 : decode cX5_image 14 = .ok (.iload_n 2, 1) := by decide +kernel
theorem dX5_image_15 : decode cX5_image 15 = .ok (.bipush 69, 2) := by decide +kernel
theorem dX5_image_17 : decode cX5_image 17 = .ok (.if_icmp .ge 26, 3) := by decide +kernel
theorem dX5_image_20 : decode cX5_image 20 = .ok (.aload_n 0, 1) := by decide +kernel
theorem dX5_image_21 : decode cX5_image 21 = .ok (.getfield 13, 3) := by decide +kernel
theorem dX5_image_24 : decode cX5_image 24 = .ok (.bipush 69, 2) := by decide +kernel
theorem dX5_image_26 : decode cX5_image 26 = .ok (.iload_n 1, 1) := by decide +kernel
theorem dX5_image_27 : decode cX5_image 27 = .ok (.imul, 1) := by decide +kernel
theorem dX5_image_28 : decode cX5_image 28 = .ok (.iload_n 2, 1) := by decide +kernel
theorem dX5_image_29 : decode cX5_image 29 = .ok (.iadd, 1) := by decide +kernel
theorem dX5_image_30 : decode cX5_image 30 = .ok (.aload_n 0, 1) := by decide +kernel
theorem dX5_image_31 : decode cX5_image 31 = .ok (.getfield 7, 3) := by decide +kernel
theorem dX5_image_34 : decode cX5_image 34 = .ok (.iload_n 2, 1) := by decide +kernel
theorem dX5_image_35 : decode cX5_image 35 = .ok (.iaload, 1) := by decide +kernel
theorem dX5_image_36 : decode cX5_image 36 = .ok (.iastore, 1) := by decide +kernel
theorem dX5_image_37 : decode cX5_image 37 = .ok (.iinc 2 1, 3) := by decide +kernel
theorem dX5_image_40 : decode cX5_image 40 = .ok (.goto (-26), 3) := by decide +kernel
theorem dX5_image_43 : decode cX5_image 43 = .ok (.aload_n 0, 1) := by decide +kernel
theorem dX5_image_44 : decode cX5_image 44 = .ok (.getfield 16, 3) := by decide +kernel
theorem dX5_image_47 : decode cX5_image 47 = .ok (.iload_n 1, 1) := by decide +kernel
theorem dX5_image_48 : decode cX5_image 48 = .ok (.iconst 1, 1) := by decide +kernel
theorem dX5_image_49 : decode cX5_image 49 = .ok (.bastore, 1) := by decide +kernel
theorem dX5_image_50 : decode cX5_image 50 = .ok (.iconst 1, 1) := by decide +kernel
theorem dX5_image_51 : decode cX5_image 51 = .ok (.ireturn, 1) := by decide +kernel
theorem dX5_restore_0 : decode cX5_restore 0 = .ok (.iload_n 1, 1) := by decide +kernel
theorem dX5_restore_1 : decode cX5_restore 1 = .ok (.iconst 0, 1) := by decide +kernel
theorem dX5_restore_2 : decode cX5_restore 2 = .ok (.iconst 1, 1) := by decide +kernel
theorem dX5_restore_3 : decode cX5_restore 3 = .ok (.invokestatic 50, 3) := by decide +kernel
theorem dX5_restore_6 : decode cX5_restore 6 = .ok (.ifCond .ne 6, 3) := by decide +kernel
theorem dX5_restore_9 : decode cX5_restore 9 = .ok (.bipush (-2), 2) := by decide +kernel
theorem dX5_restore_11 : decode cX5_restore 11 = .ok (.ireturn, 1) := by decide +kernel
theorem dX5_restore_12 : decode cX5_restore 12 = .ok (.aload_n 0, 1) := by decide +kernel
theorem dX5_restore_13 : decode cX5_restore 13 = .ok (.getfield 16, 3) := by decide +kernel
theorem dX5_restore_16 : decode cX5_restore 16 = .ok (.iload_n 1, 1) := by decide +kernel
theorem dX5_restore_17 : decode cX5_restore 17 = .ok (.baload, 1) := by decide +kernel
theorem dX5_restore_18 : decode cX5_restore 18 = .ok (.ifCond .ne 6, 3) := by decide +kernel
theorem dX5_restore_21 : decode cX5_restore 21 = .ok (.bipush (-3), 2) := by decide +kernel
theorem dX5_restore_23 : decode cX5_restore 23 = .ok (.ireturn, 1) := by decide +kernel
theorem dX5_restore_24 : decode cX5_restore 24 = .ok (.iconst 0, 1) := by decide +kernel
theorem dX5_restore_25 : decode cX5_restore 25 = .ok (.istore_n 2, 1) := by decide +kernel
theorem dX5_restore_26 : decode cX5_restore 26 = .ok (.iload_n 2, 1) := by decide +kernel
theorem dX5_restore_27 : decode cX5_restore 27 = .ok (.bipush 69, 2) := by decide +kernel
theorem dX5_restore_29 : decode cX5_restore 29 = .ok (.if_icmp .ge 26, 3) := by decide +kernel
theorem dX5_restore_32 : decode cX5_restore 32 = .ok (.aload_n 0, 1) := by decide +kernel
theorem dX5_restore_33 : decode cX5_restore 33 = .ok (.getfield 7, 3) := by decide +kernel
theorem dX5_restore_36 : decode cX5_restore 36 = .ok (.iload_n 2, 1) := by decide +kernel
theorem dX5_restore_37 : decode cX5_restore 37 = .ok (.aload_n 0, 1) := by decide +kernel
theorem dX5_restore_38 : decode cX5_restore 38 = .ok (.getfield 13, 3) := by decide +kernel
theorem dX5_restore_41 : decode cX5_restore 41 = .ok (.bipush 69, 2) := by decide +kernel
theorem dX5_restore_43 : decode cX5_restore 43 = .ok (.iload_n 1, 1) := by decide +kernel
theorem dX5_restore_44 : decode cX5_restore 44 = .ok (.imul, 1) := by decide +kernel
theorem dX5_restore_45 : decode cX5_restore 45 = .ok (.iload_n 2, 1) := by decide +kernel
theorem dX5_restore_46 : decode cX5_restore 46 = .ok (.iadd, 1) := by decide +kernel
theorem dX5_restore_47 : decode cX5_restore 47 = .ok (.iaload, 1) := by decide +kernel
theorem dX5_restore_48 : decode cX5_restore 48 = .ok (.iastore, 1) := by decide +kernel
theorem dX5_restore_49 : decode cX5_restore 49 = .ok (.iinc 2 1, 3) := by decide +kernel
theorem dX5_restore_52 : decode cX5_restore 52 = .ok (.goto (-26), 3) := by decide +kernel
theorem dX5_restore_55 : decode cX5_restore 55 = .ok (.iconst 1, 1) := by decide +kernel
theorem dX5_restore_56 : decode cX5_restore 56 = .ok (.ireturn, 1) := by decide +kernel
theorem dX5_shutOnes_0 : decode cX5_shutOnes 0 = .ok (.iconst 0, 1) := by decide +kernel
theorem dX5_shutOnes_1 : decode cX5_shutOnes 1 = .ok (.istore_n 1, 1) := by decide +kernel
theorem dX5_shutOnes_2 : decode cX5_shutOnes 2 = .ok (.iconst 0, 1) := by decide +kernel
theorem dX5_shutOnes_3 : decode cX5_shutOnes 3 = .ok (.istore_n 2, 1) := by decide +kernel
theorem dX5_shutOnes_4 : decode cX5_shutOnes 4 = .ok (.iload_n 2, 1) := by decide +kernel
theorem dX5_shutOnes_5 : decode cX5_shutOnes 5 = .ok (.aload_n 0, 1) := by decide +kernel
theorem dX5_shutOnes_6 : decode cX5_shutOnes 6 = .ok (.invokevirtual 54, 3) := by decide +kernel
theorem dX5_shutOnes_9 : decode cX5_shutOnes 9 = .ok (.if_icmp .ge 32, 3) := by decide +kernel
theorem dX5_shutOnes_12 : decode cX5_shutOnes 12 = .ok (.iload_n 1, 1) := by decide +kernel
theorem dX5_shutOnes_13 : decode cX5_shutOnes 13 = .ok (.aload_n 0, 1) := by decide +kernel
theorem dX5_shutOnes_14 : decode cX5_shutOnes 14 = .ok (.getfield 7, 3) := by decide +kernel
theorem dX5_shutOnes_17 : decode cX5_shutOnes 17 = .ok (.bipush 58, 2) := by decide +kernel
theorem dX5_shutOnes_19 : decode cX5_shutOnes 19 = .ok (.iload_n 2, 1) := by decide +kernel
theorem dX5_shutOnes_20 : decode cX5_shutOnes 20 = .ok (.iadd, 1) := by decide +kernel
theorem dX5_shutOnes_21 : decode cX5_shutOnes 21 = .ok (.iaload, 1) := by decide +kernel
theorem dX5_shutOnes_22 : decode cX5_shutOnes 22 = .ok (.sipush 1000, 3) := by decide +kernel
theorem dX5_shutOnes_25 : decode cX5_shutOnes 25 = .ok (.if_icmp .ne 7, 3) := by decide +kernel
theorem dX5_shutOnes_28 : decode cX5_shutOnes 28 = .ok (.iconst 0, 1) := by decide +kernel
theorem dX5_shutOnes_29 : decode cX5_shutOnes 29 = .ok (.goto 4, 3) := by decide +kernel
theorem dX5_shutOnes_32 : decode cX5_shutOnes 32 = .ok (.iconst 1, 1) := by decide +kernel
theorem dX5_shutOnes_33 : decode cX5_shutOnes 33 = .ok (.iadd, 1) := by decide +kernel
theorem dX5_shutOnes_34 : decode cX5_shutOnes 34 = .ok (.istore_n 1, 1) := by decide +kernel
theorem dX5_shutOnes_35 : decode cX5_shutOnes 35 = .ok (.iinc 2 1, 3) := by decide +kernel
theorem dX5_shutOnes_38 : decode cX5_shutOnes 38 = .ok (.goto (-34), 3) := by decide +kernel
theorem dX5_shutOnes_41 : decode cX5_shutOnes 41 = .ok (.iload_n 1, 1) := by decide +kernel
theorem dX5_shutOnes_42 : decode cX5_shutOnes 42 = .ok (.ireturn, 1) := by decide +kernel
theorem dX5_safeSet_0 : decode cX5_safeSet 0 = .ok (.iconst 0, 1) := by decide +kernel
theorem dX5_safeSet_1 : decode cX5_safeSet 1 = .ok (.istore_n 1, 1) := by decide +kernel
theorem dX5_safeSet_2 : decode cX5_safeSet 2 = .ok (.iconst 0, 1) := by decide +kernel
theorem dX5_safeSet_3 : decode cX5_safeSet 3 = .ok (.istore_n 2, 1) := by decide +kernel
theorem dX5_safeSet_4 : decode cX5_safeSet 4 = .ok (.iload_n 2, 1) := by decide +kernel
theorem dX5_safeSet_5 : decode cX5_safeSet 5 = .ok (.bipush 6, 2) := by decide +kernel
theorem dX5_safeSet_7 : decode cX5_safeSet 7 = .ok (.if_icmp .ge 27, 3) := by decide +kernel
theorem dX5_safeSet_10 : decode cX5_safeSet 10 = .ok (.iload_n 1, 1) := by decide +kernel
theorem dX5_safeSet_11 : decode cX5_safeSet 11 = .ok (.aload_n 0, 1) := by decide +kernel
theorem dX5_safeSet_12 : decode cX5_safeSet 12 = .ok (.iload_n 2, 1) := by decide +kernel
theorem dX5_safeSet_13 : decode cX5_safeSet 13 = .ok (.invokevirtual 102, 3) := by decide +kernel
theorem dX5_safeSet_16 : decode cX5_safeSet 16 = .ok (.ifCond .eq 9, 3) := by decide +kernel
theorem dX5_safeSet_19 : decode cX5_safeSet 19 = .ok (.iconst 1, 1) := by decide +kernel
theorem dX5_safeSet_20 : decode cX5_safeSet 20 = .ok (.iload_n 2, 1) := by decide +kernel
theorem dX5_safeSet_21 : decode cX5_safeSet 21 = .ok (.ishl, 1) := by decide +kernel
theorem dX5_safeSet_22 : decode cX5_safeSet 22 = .ok (.goto 4, 3) := by decide +kernel
theorem dX5_safeSet_25 : decode cX5_safeSet 25 = .ok (.iconst 0, 1) := by decide +kernel
theorem dX5_safeSet_26 : decode cX5_safeSet 26 = .ok (.ior, 1) := by decide +kernel
theorem dX5_safeSet_27 : decode cX5_safeSet 27 = .ok (.istore_n 1, 1) := by decide +kernel
theorem dX5_safeSet_28 : decode cX5_safeSet 28 = .ok (.iinc 2 1, 3) := by decide +kernel
theorem dX5_safeSet_31 : decode cX5_safeSet 31 = .ok (.goto (-27), 3) := by decide +kernel
theorem dX5_safeSet_34 : decode cX5_safeSet 34 = .ok (.iload_n 1, 1) := by decide +kernel
theorem dX5_safeSet_35 : decode cX5_safeSet 35 = .ok (.ireturn, 1) := by decide +kernel
theorem dX5_count_0 : decode cX5_count 0 = .ok (.iload_n 1, 1) := by decide +kernel
theorem dX5_count_1 : decode cX5_count 1 = .ok (.tableswitch 94 0 5 #[39, 44, 49, 54, 59, 64], 39) := by decide +kernel
theorem dX5_count_40 : decode cX5_count 40 = .ok (.aload_n 0, 1) := by decide +kernel
theorem dX5_count_41 : decode cX5_count 41 = .ok (.invokevirtual 149, 3) := by decide +kernel
theorem dX5_count_44 : decode cX5_count 44 = .ok (.ireturn, 1) := by decide +kernel
theorem dX5_count_45 : decode cX5_count 45 = .ok (.aload_n 0, 1) := by decide +kernel
theorem dX5_count_46 : decode cX5_count 46 = .ok (.invokevirtual 54, 3) := by decide +kernel
theorem dX5_count_49 : decode cX5_count 49 = .ok (.ireturn, 1) := by decide +kernel
theorem dX5_count_50 : decode cX5_count 50 = .ok (.aload_n 0, 1) := by decide +kernel
theorem dX5_count_51 : decode cX5_count 51 = .ok (.getfield 73, 3) := by decide +kernel
theorem dX5_count_54 : decode cX5_count 54 = .ok (.ireturn, 1) := by decide +kernel
theorem dX5_count_55 : decode cX5_count 55 = .ok (.aload_n 0, 1) := by decide +kernel
theorem dX5_count_56 : decode cX5_count 56 = .ok (.invokevirtual 177, 3) := by decide +kernel
theorem dX5_count_59 : decode cX5_count 59 = .ok (.ireturn, 1) := by decide +kernel
theorem dX5_count_60 : decode cX5_count 60 = .ok (.aload_n 0, 1) := by decide +kernel
theorem dX5_count_61 : decode cX5_count 61 = .ok (.invokevirtual 180, 3) := by decide +kernel
theorem dX5_count_64 : decode cX5_count 64 = .ok (.ireturn, 1) := by decide +kernel
theorem dX5_count_65 : decode cX5_count 65 = .ok (.aload_n 0, 1) := by decide +kernel
theorem dX5_count_66 : decode cX5_count 66 = .ok (.getfield 16, 3) := by decide +kernel
theorem dX5_count_69 : decode cX5_count 69 = .ok (.iconst 0, 1) := by decide +kernel
theorem dX5_count_70 : decode cX5_count 70 = .ok (.baload, 1) := by decide +kernel
theorem dX5_count_71 : decode cX5_count 71 = .ok (.ifCond .eq 7, 3) := by decide +kernel
theorem dX5_count_74 : decode cX5_count 74 = .ok (.iconst 1, 1) := by decide +kernel
theorem dX5_count_75 : decode cX5_count 75 = .ok (.goto 4, 3) := by decide +kernel
theorem dX5_count_78 : decode cX5_count 78 = .ok (.iconst 0, 1) := by decide +kernel
theorem dX5_count_79 : decode cX5_count 79 = .ok (.aload_n 0, 1) := by decide +kernel
theorem dX5_count_80 : decode cX5_count 80 = .ok (.getfield 16, 3) := by decide +kernel
theorem dX5_count_83 : decode cX5_count 83 = .ok (.iconst 1, 1) := by decide +kernel
theorem dX5_count_84 : decode cX5_count 84 = .ok (.baload, 1) := by decide +kernel
theorem dX5_count_85 : decode cX5_count 85 = .ok (.ifCond .eq 7, 3) := by decide +kernel
theorem dX5_count_88 : decode cX5_count 88 = .ok (.iconst 2, 1) := by decide +kernel
theorem dX5_count_89 : decode cX5_count 89 = .ok (.goto 4, 3) := by decide +kernel
theorem dX5_count_92 : decode cX5_count 92 = .ok (.iconst 0, 1) := by decide +kernel
theorem dX5_count_93 : decode cX5_count 93 = .ok (.iadd, 1) := by decide +kernel
theorem dX5_count_94 : decode cX5_count 94 = .ok (.ireturn, 1) := by decide +kernel
theorem dX5_count_95 : decode cX5_count 95 = .ok (.bipush (-2), 2) := by decide +kernel
theorem dX5_count_97 : decode cX5_count 97 = .ok (.ireturn, 1) := by decide +kernel
