theorem dX4_init_0 : decode cX4_init 0 = .ok (.aload_n 0, 1) := by decide +kernel
theorem dX4_init_1 : decode cX4_init 1 = .ok (.invokespecial 1, 3) := by decide +kernel
theorem dX4_init_4 : decode cX4_init 4 = .ok (.aload_n 0, 1) := by decide +kernel
theorem dX4_init_5 : decode cX4_init 5 = .ok (.new 7, 3) := by decide +kernel
theorem dX4_init_8 : decode cX4_init 8 = .ok (.dup, 1) := by decide +kernel
theorem dX4_init_9 : decode cX4_init 9 = .ok (.invokespecial 9, 3) := by decide +kernel
theorem dX4_init_12 : decode cX4_init 12 = .ok (.putfield 10, 3) := by decide +kernel
theorem dX4_init_15 : decode cX4_init 15 = .ok (.aload_n 0, 1) := by decide +kernel
theorem dX4_init_16 : decode cX4_init 16 = .ok (.new 7, 3) := by decide +kernel
theorem dX4_init_19 : decode cX4_init 19 = .ok (.dup, 1) := by decide +kernel
theorem dX4_init_20 : decode cX4_init 20 = .ok (.invokespecial 9, 3) := by decide +kernel
theorem dX4_init_23 : decode cX4_init 23 = .ok (.putfield 16, 3) := by decide +kernel
theorem dX4_init_26 : decode cX4_init 26 = .ok (.aload_n 0, 1) := by decide +kernel
theorem dX4_init_27 : decode cX4_init 27 = .ok (.new 7, 3) := by decide +kernel
theorem dX4_init_30 : decode cX4_init 30 = .ok (.dup, 1) := by decide +kernel
theorem dX4_init_31 : decode cX4_init 31 = .ok (.invokespecial 9, 3) := by decide +kernel
theorem dX4_init_34 : decode cX4_init 34 = .ok (.putfield 19, 3) := by decide +kernel
theorem dX4_init_37 : decode cX4_init 37 = .ok (.aload_n 0, 1) := by decide +kernel
theorem dX4_init_38 : decode cX4_init 38 = .ok (.iconst 0, 1) := by decide +kernel
theorem dX4_init_39 : decode cX4_init 39 = .ok (.putfield 22, 3) := by decide +kernel
theorem dX4_init_42 : decode cX4_init 42 = .ok (.aload_n 0, 1) := by decide +kernel
theorem dX4_init_43 : decode cX4_init 43 = .ok (.new 26, 3) := by decide +kernel
theorem dX4_init_46 : decode cX4_init 46 = .ok (.dup, 1) := by decide +kernel
theorem dX4_init_47 : decode cX4_init 47 = .ok (.invokespecial 28, 3) := by decide +kernel
theorem dX4_init_50 : decode cX4_init 50 = .ok (.putfield 29, 3) := by decide +kernel
theorem dX4_init_53 : decode cX4_init 53 = .ok (.aload_n 0, 1) := by decide +kernel
theorem dX4_init_54 : decode cX4_init 54 = .ok (.new 33, 3) := by decide +kernel
theorem dX4_init_57 : decode cX4_init 57 = .ok (.dup, 1) := by decide +kernel
theorem dX4_init_58 : decode cX4_init 58 = .ok (.invokespecial 35, 3) := by decide +kernel
theorem dX4_init_61 : decode cX4_init 61 = .ok (.putfield 36, 3) := by decide +kernel
theorem dX4_init_64 : decode cX4_init 64 = .ok (.aload_n 0, 1) := by decide +kernel
theorem dX4_init_65 : decode cX4_init 65 = .ok (.new 33, 3) := by decide +kernel
theorem dX4_init_68 : decode cX4_init 68 = .ok (.dup, 1) := by decide +kernel
theorem dX4_init_69 : decode cX4_init 69 = .ok (.invokespecial 35, 3) := by decide +kernel
theorem dX4_init_72 : decode cX4_init 72 = .ok (.putfield 40, 3) := by decide +kernel
theorem dX4_init_75 : decode cX4_init 75 = .ok (.aload_n 0, 1) := by decide +kernel
theorem dX4_init_76 : decode cX4_init 76 = .ok (.new 43, 3) := by decide +kernel
theorem dX4_init_79 : decode cX4_init 79 = .ok (.dup, 1) := by decide +kernel
theorem dX4_init_80 : decode cX4_init 80 = .ok (.invokespecial 45, 3) := by decide +kernel
theorem dX4_init_83 : decode cX4_init 83 = .ok (.putfield 46, 3) := by decide +kernel
theorem dX4_init_86 : decode cX4_init 86 = .ok (.return_, 1) := by decide +kernel
theorem dX4_room_0 : decode cX4_room 0 = .ok (.iload_n 1, 1) := by decide +kernel
theorem dX4_room_1 : decode cX4_room 1 = .ok (.invokestatic 50, 3) := by decide +kernel
theorem dX4_room_4 : decode cX4_room 4 = .ok (.ifCond .ne 5, 3) := by decide +kernel
theorem dX4_room_7 : decode cX4_room 7 = .ok (.iconst (-1), 1) := by decide +kernel
theorem dX4_room_8 : decode cX4_room 8 = .ok (.ireturn, 1) := by decide +kernel
theorem dX4_room_9 : decode cX4_room 9 = .ok (.iload_n 2, 1) := by decide +kernel
theorem dX4_room_10 : decode cX4_room 10 = .ok (.iconst 0, 1) := by decide +kernel
theorem dX4_room_11 : decode cX4_room 11 = .ok (.bipush 30, 2) := by decide +kernel
theorem dX4_room_13 : decode cX4_room 13 = .ok (.invokestatic 54, 3) := by decide +kernel
theorem dX4_room_16 : decode cX4_room 16 = .ok (.ifCond .eq 13, 3) := by decide +kernel
theorem dX4_room_19 : decode cX4_room 19 = .ok (.iload_n 3, 1) := by decide +kernel
theorem dX4_room_20 : decode cX4_room 20 = .ok (.iconst 1, 1) := by decide +kernel
theorem dX4_room_21 : decode cX4_room 21 = .ok (.bipush 99, 2) := by decide +kernel
theorem dX4_room_23 : decode cX4_room 23 = .ok (.invokestatic 54, 3) := by decide +kernel
theorem dX4_room_26 : decode cX4_room 26 = .ok (.ifCond .ne 6, 3) := by decide +kernel
theorem dX4_room_29 : decode cX4_room 29 = .ok (.bipush (-2), 2) := by decide +kernel
theorem dX4_room_31 : decode cX4_room 31 = .ok (.ireturn, 1) := by decide +kernel
theorem dX4_room_32 : decode cX4_room 32 = .ok (.aload_n 0, 1) := by decide +kernel
theorem dX4_room_33 : decode cX4_room 33 = .ok (.getfield 10, 3) := by decide +kernel
theorem dX4_room_36 : decode cX4_room 36 = .ok (.getfield 58, 3) := by decide +kernel
theorem dX4_room_39 : decode cX4_room 39 = .ok (.iload_n 1, 1) := by decide +kernel
theorem dX4_room_40 : decode cX4_room 40 = .ok (.iaload, 1) := by decide +kernel
theorem dX4_room_41 : decode cX4_room 41 = .ok (.istore 4, 2) := by decide +kernel
theorem dX4_room_43 : decode cX4_room 43 = .ok (.aload_n 0, 1) := by decide +kernel
theorem dX4_room_44 : decode cX4_room 44 = .ok (.getfield 10, 3) := by decide +kernel
theorem dX4_room_47 : decode cX4_room 47 = .ok (.getfield 58, 3) := by decide +kernel
theorem dX4_room_50 : decode cX4_room 50 = .ok (.iload_n 1, 1) := by decide +kernel
theorem dX4_room_51 : decode cX4_room 51 = .ok (.iload_n 2, 1) := by decide +kernel
theorem dX4_room_52 : decode cX4_room 52 = .ok (.iastore, 1) := by decide +kernel
theorem dX4_room_53 : decode cX4_room 53 = .ok (.aload_n 0, 1) := by decide +kernel
theorem dX4_room_54 : decode cX4_room 54 = .ok (.getfield 10, 3) := by decide +kernel
theorem dX4_room_57 : decode cX4_room 57 = .ok (.getfield 62, 3) := by decide +kernel
theorem dX4_room_60 : decode cX4_room 60 = .ok (.iload_n 1, 1) := by decide +kernel
theorem dX4_room_61 : decode cX4_room 61 = .ok (.iload_n 3, 1) := by decide +kernel
theorem dX4_room_62 : decode cX4_room 62 = .ok (.iastore, 1) := by decide +kernel
theorem dX4_room_63 : decode cX4_room 63 = .ok (.iload 4, 2) := by decide +kernel
theorem dX4_room_65 : decode cX4_room 65 = .ok (.ireturn, 1) := by decide +kernel
theorem dX4_safe_0 : decode cX4_safe 0 = .ok (.iload_n 1, 1) := by decide +kernel
theorem dX4_safe_1 : decode cX4_safe 1 = .ok (.invokestatic 50, 3) := by decide +kernel
theorem dX4_safe_4 : decode cX4_safe 4 = .ok (.ifCond .ne 5, 3) := by decide +kernel
theorem dX4_safe_7 : decode cX4_safe 7 = .ok (.iconst (-1), 1) := by decide +kernel
theorem dX4_safe_8 : decode cX4_safe 8 = .ok (.ireturn, 1) := by decide +kernel
theorem dX4_safe_9 : decode cX4_safe 9 = .ok (.iload_n 2, 1) := by decide +kernel
theorem dX4_safe_10 : decode cX4_safe 10 = .ok (.iconst 0, 1) := by decide +kernel
theorem dX4_safe_11 : decode cX4_safe 11 = .ok (.iconst 1, 1) := by decide +kernel
theorem dX4_safe_12 : decode cX4_safe 12 = .ok (.invokestatic 54, 3) := by decide +kernel
theorem dX4_safe_15 : decode cX4_safe 15 = .ok (.ifCond .ne 6, 3) := by decide +kernel
theorem dX4_safe_18 : decode cX4_safe 18 = .ok (.bipush (-2), 2) := by decide +kernel
theorem dX4_safe_20 : decode cX4_safe 20 = .ok (.ireturn, 1) := by decide +kernel
theorem dX4_safe_21 : decode cX4_safe 21 = .ok (.iconst 1, 1) := by decide +kernel
theorem dX4_safe_22 : decode cX4_safe 22 = .ok (.iload_n 1, 1) := by decide +kernel
theorem dX4_safe_23 : decode cX4_safe 23 = .ok (.ishl, 1) := by decide +kernel
theorem dX4_safe_24 : decode cX4_safe 24 = .ok (.istore_n 3, 1) := by decide +kernel
theorem dX4_safe_25 : decode cX4_safe 25 = .ok (.aload_n 0, 1) := by decide +kernel
theorem dX4_safe_26 : decode cX4_safe 26 = .ok (.getfield 10, 3) := by decide +kernel
theorem dX4_safe_29 : decode cX4_safe 29 = .ok (.iload_n 2, 1) := by decide +kernel
theorem dX4_safe_30 : decode cX4_safe 30 = .ok (.iconst 1, 1) := by decide +kernel
theorem dX4_safe_31 : decode cX4_safe 31 = .ok (.if_icmp .ne 15, 3) := by decide +kernel
theorem dX4_safe_34 : decode cX4_safe 34 = .ok (.aload_n 0, 1) := by decide +kernel
theorem dX4_safe_35 : decode cX4_safe 35 = .ok (.getfield 10, 3) := by decide +kernel
theorem dX4_safe_38 : decode cX4_safe 38 = .ok (.getfield 65, 3) := by decide +kernel
theorem dX4_safe_41 : decode cX4_safe 41 = .ok (.iload_n 3, 1) := by decide +kernel
theorem dX4_safe_42 : decode cX4_safe 42 = .ok (.ior, 1) := by decide +kernel
theorem dX4_safe_43 : decode cX4_safe 43 = .ok (.goto 14, 3) := by decide +kernel
theorem dX4_safe_46 : decode cX4_safe 46 = .ok (.aload_n 0, 1) := by decide +kernel
theorem dX4_safe_47 : decode cX4_safe 47 = .ok (.getfield 10, 3) := by decide +kernel
theorem dX4_safe_50 : decode cX4_safe 50 = .ok (.getfield 65, 3) := by decide +kernel
theorem dX4_safe_53 : decode cX4_safe 53 = .ok (.iload_n 3, 1) := by decide +kernel
theorem dX4_safe_54 : decode cX4_safe 54 = .ok (.iconst (-1), 1) := by decide +kernel
theorem dX4_safe_55 : decode cX4_safe 55 = .ok (.ixor, 1) := by decide +kernel
theorem dX4_safe_56 : decode cX4_safe 56 = .ok (.iand, 1) := by decide +kernel
theorem dX4_safe_57 : decode cX4_safe 57 = .ok (.putfield 65, 3) := by decide +kernel
theorem dX4_safe_60 : decode cX4_safe 60 = .ok (.aload_n 0, 1) := by decide +kernel
theorem dX4_safe_61 : decode cX4_safe 61 = .ok (.getfield 10, 3) := by decide +kernel
theorem dX4_safe_64 : decode cX4_safe 64 = .ok (.getfield 65, 3) := by decide +kernel
theorem dX4_safe_67 : decode cX4_safe 67 = .ok (.invokestatic 68, 3) := by decide +kernel
theorem dX4_safe_70 : decode cX4_safe 70 = .ok (.ireturn, 1) := by decide +kernel
theorem dX4_passage_0 : decode cX4_passage 0 = .ok (.iload_n 1, 1) := by decide +kernel
theorem dX4_passage_1 : decode cX4_passage 1 = .ok (.invokestatic 50, 3) := by decide +kernel
theorem dX4_passage_4 : decode cX4_passage 4 = .ok (.ifCond .eq 10, 3) := by decide +kernel
theorem dX4_passage_7 : decode cX4_passage 7 = .ok (.iload_n 2, 1) := by decide +kernel
theorem dX4_passage_8 : decode cX4_passage 8 = .ok (.invokestatic 50, 3) := by decide +kernel
theorem dX4_passage_11 : decode cX4_passage 11 = .ok (.ifCond .ne 5, 3) := by decide +kernel
theorem dX4_passage_14 : decode cX4_passage 14 = .ok (.iconst (-1), 1) := by decide +kernel
theorem dX4_passage_15 : decode cX4_passage 15 = .ok (.ireturn, 1) := by decide +kernel
theorem dX4_passage_16 : decode cX4_passage 16 = .ok (.iload_n 1, 1) := by decide +kernel
theorem dX4_passage_17 : decode cX4_passage 17 = .ok (.iload_n 2, 1) := by decide +kernel
theorem dX4_passage_18 : decode cX4_passage 18 = .ok (.if_icmp .eq 23, 3) := by decide +kernel
theorem dX4_passage_21 : decode cX4_passage 21 = .ok (.iload_n 3, 1) := by decide +kernel
theorem dX4_passage_22 : decode cX4_passage 22 = .ok (.iconst 1, 1) := by decide +kernel
theorem dX4_passage_23 : decode cX4_passage 23 = .ok (.bipush 6, 2) := by decide +kernel
theorem dX4_passage_25 : decode cX4_passage 25 = .ok (.invokestatic 54, 3) := by decide +kernel
theorem dX4_passage_28 : decode cX4_passage 28 = .ok (.ifCond .eq 13, 3) := by decide +kernel
theorem dX4_passage_31 : decode cX4_passage 31 = .ok (.iload 4, 2) := by decide +kernel
theorem dX4_passage_33 : decode cX4_passage 33 = .ok (.iconst 1, 1) := by decide +kernel
theorem dX4_passage_34 : decode cX4_passage 34 = .ok (.iconst 4, 1) := by decide +kernel
theorem dX4_passage_35 : decode cX4_passage 35 = .ok (.invokestatic 54, 3) := by decide +kernel
theorem dX4_passage_38 : decode cX4_passage 38 = .ok (.ifCond .ne 6, 3) := by decide +kernel
theorem dX4_passage_41 : decode cX4_passage 41 = .ok (.bipush (-2), 2) := by decide +kernel
theorem dX4_passage_43 : decode cX4_passage 43 = .ok (.ireturn, 1) := by decide +kernel
theorem dX4_passage_44 : decode cX4_passage 44 = .ok (.aload_n 0, 1) := by decide +kernel
theorem dX4_passage_45 : decode cX4_passage 45 = .ok (.getfield 10, 3) := by decide +kernel
theorem dX4_passage_48 : decode cX4_passage 48 = .ok (.getfield 74, 3) := by decide +kernel
theorem dX4_passage_51 : decode cX4_passage 51 = .ok (.bipush 10, 2) := by decide +kernel
theorem dX4_passage_53 : decode cX4_passage 53 = .ok (.if_icmp .lt 6, 3) := by decide +kernel
theorem dX4_passage_56 : decode cX4_passage 56 = .ok (.bipush (-4), 2) := by decide +kernel
theorem dX4_passage_58 : decode cX4_passage 58 = .ok (.ireturn, 1) := by decide +kernel
theorem dX4_passage_59 : decode cX4_passage 59 = .ok (.aload_n 0, 1) := by decide +kernel
theorem dX4_passage_60 : decode cX4_passage 60 = .ok (.getfield 10, 3) := by decide +kernel
theorem dX4_passage_63 : decode cX4_passage 63 = .ok (.iload_n 1, 1) := by decide +kernel
theorem dX4_passage_64 : decode cX4_passage 64 = .ok (.iload_n 2, 1) := by decide +kernel
theorem dX4_passage_65 : decode cX4_passage 65 = .ok (.iload_n 3, 1) := by decide +kernel
theorem dX4_passage_66 : decode cX4_passage 66 = .ok (.iload 4, 2) := by decide +kernel
theorem dX4_passage_68 : decode cX4_passage 68 = .ok (.invokevirtual 77, 3) := by decide +kernel
theorem dX4_passage_71 : decode cX4_passage 71 = .ok (.aload_n 0, 1) := by decide +kernel
theorem dX4_passage_72 : decode cX4_passage 72 = .ok (.getfield 10, 3) := by decide +kernel
theorem dX4_passage_75 : decode cX4_passage 75 = .ok (.getfield 74, 3) := by decide +kernel
theorem dX4_passage_78 : decode cX4_passage 78 = .ok (.iconst 1, 1) := by decide +kernel
theorem dX4_passage_79 : decode cX4_passage 79 = .ok (.isub, 1) := by decide +kernel
theorem dX4_passage_80 : decode cX4_passage 80 = .ok (.ireturn, 1) := by decide +kernel
theorem dX4_widen_0 : decode cX4_widen 0 = .ok (.aload_n 0, 1) := by decide +kernel
theorem dX4_widen_1 : decode cX4_widen 1 = .ok (.iload_n 1, 1) := by decide +kernel
theorem dX4_widen_2 : decode cX4_widen 2 = .ok (.invokevirtual 81, 3) := by decide +kernel
theorem dX4_widen_5 : decode cX4_widen 5 = .ok (.ifCond .ne 5, 3) := by decide +kernel
theorem dX4_widen_8 : decode cX4_widen 8 = .ok (.iconst (-1), 1) := by decide +kernel
theorem dX4_widen_9 : decode cX4_widen 9 = .ok (.ireturn, 1) := by decide +kernel
theorem dX4_widen_10 : decode cX4_widen 10 = .ok (.iload_n 2, 1) := by decide +kernel
theorem dX4_widen_11 : decode cX4_widen 11 = .ok (.iconst 1, 1) := by decide +kernel
theorem dX4_widen_12 : decode cX4_widen 12 = .ok (.bipush 6, 2) := by decide +kernel
theorem dX4_widen_14 : decode cX4_widen 14 = .ok (.invokestatic 54, 3) := by decide +kernel
theorem dX4_widen_17 : decode cX4_widen 17 = .ok (.ifCond .ne 6, 3) := by decide +kernel
theorem dX4_widen_20 : decode cX4_widen 20 = .ok (.bipush (-2), 2) := by decide +kernel
theorem dX4_widen_22 : decode cX4_widen 22 = .ok (.ireturn, 1) := by decide +kernel
theorem dX4_widen_23 : decode cX4_widen 23 = .ok (.aload_n 0, 1) := by decide +kernel
theorem dX4_widen_24 : decode cX4_widen 24 = .ok (.getfield 10, 3) := by decide +kernel
theorem dX4_widen_27 : decode cX4_widen 27 = .ok (.getfield 84, 3) := by decide +kernel
theorem dX4_widen_30 : decode cX4_widen 30 = .ok (.iload_n 1, 1) := by decide +kernel
theorem dX4_widen_31 : decode cX4_widen 31 = .ok (.iaload, 1) := by decide +kernel
theorem dX4_widen_32 : decode cX4_widen 32 = .ok (.istore_n 3, 1) := by decide +kernel
theorem dX4_widen_33 : decode cX4_widen 33 = .ok (.aload_n 0, 1) := by decide +kernel
theorem dX4_widen_34 : decode cX4_widen 34 = .ok (.getfield 10, 3) := by decide +kernel
theorem dX4_widen_37 : decode cX4_widen 37 = .ok (.getfield 84, 3) := by decide +kernel
theorem dX4_widen_40 : decode cX4_widen 40 = .ok (.iload_n 1, 1) := by decide +kernel
theorem dX4_widen_41 : decode cX4_widen 41 = .ok (.iload_n 2, 1) := by decide +kernel
theorem dX4_widen_42 : decode cX4_widen 42 = .ok (.iastore, 1) := by decide +kernel
theorem dX4_widen_43 : decode cX4_widen 43 = .ok (.iload_n 3, 1) := by decide +kernel
theorem dX4_widen_44 : decode cX4_widen 44 = .ok (.ireturn, 1) := by decide +kernel
theorem dX4_shut_0 : decode cX4_shut 0 = .ok (.aload_n 0, 1) := by decide +kernel
theorem dX4_shut_1 : decode cX4_shut 1 = .ok (.iload_n 1, 1) := by decide +kernel
theorem dX4_shut_2 : decode cX4_shut 2 = .ok (.invokevirtual 81, 3) := by decide +kernel
theorem dX4_shut_5 : decode cX4_shut 5 = .ok (.ifCond .ne 5, 3) := by decide +kernel
theorem dX4_shut_8 : decode cX4_shut 8 = .ok (.iconst (-1), 1) := by decide +kernel
theorem dX4_shut_9 : decode cX4_shut 9 = .ok (.ireturn, 1) := by decide +kernel
theorem dX4_shut_10 : decode cX4_shut 10 = .ok (.iload_n 2, 1) := by decide +kernel
theorem dX4_shut_11 : decode cX4_shut 11 = .ok (.iconst (-1), 1) := by decide +kernel
theorem dX4_shut_12 : decode cX4_shut 12 = .ok (.bipush 60, 2) := by decide +kernel
theorem dX4_shut_14 : decode cX4_shut 14 = .ok (.invokestatic 54, 3) := by decide +kernel
theorem dX4_shut_17 : decode cX4_shut 17 = .ok (.ifCond .ne 6, 3) := by decide +kernel
theorem dX4_shut_20 : decode cX4_shut 20 = .ok (.bipush (-2), 2) := by decide +kernel
theorem dX4_shut_22 : decode cX4_shut 22 = .ok (.ireturn, 1) := by decide +kernel
theorem dX4_shut_23 : decode cX4_shut 23 = .ok (.aload_n 0, 1) := by decide +kernel
theorem dX4_shut_24 : decode cX4_shut 24 = .ok (.getfield 10, 3) := by decide +kernel
theorem dX4_shut_27 : decode cX4_shut 27 = .ok (.iload_n 1, 1) := by decide +kernel
theorem dX4_shut_28 : decode cX4_shut 28 = .ok (.invokevirtual 87, 3) := by decide +kernel
theorem dX4_shut_31 : decode cX4_shut 31 = .ok (.istore_n 3, 1) := by decide +kernel
theorem dX4_shut_32 : decode cX4_shut 32 = .ok (.aload_n 0, 1) := by decide +kernel
theorem dX4_shut_33 : decode cX4_shut 33 = .ok (.getfield 10, 3) := by decide +kernel
theorem dX4_shut_36 : decode cX4_shut 36 = .ok (.getfield 90, 3) := by decide +kernel
theorem dX4_shut_39 : decode cX4_shut 39 = .ok (.iload_n 1, 1) := by decide +kernel
theorem dX4_shut_40 : decode cX4_shut 40 = .ok (.iload_n 2, 1) := by decide +kernel
theorem dX4_shut_41 : decode cX4_shut 41 = .ok (.ifCond .ge 9, 3) := by decide +kernel
theorem dX4_shut_44 : decode cX4_shut 44 = .ok (.sipush 1000, 3) := by decide +kernel
theorem dX4_shut_47 : decode cX4_shut 47 = .ok (.goto 4, 3) := by decide +kernel
theorem dX4_shut_50 : decode cX4_shut 50 = .ok (.iload_n 2, 1) := by decide +kernel
theorem dX4_shut_51 : decode cX4_shut 51 = .ok (.iastore, 1) := by decide +kernel
theorem dX4_shut_52 : decode cX4_shut 52 = .ok (.iload_n 3, 1) := by decide +kernel
theorem dX4_shut_53 : decode cX4_shut 53 = .ok (.ireturn, 1) := by decide +kernel
theorem dX4_say_0 : decode cX4_say 0 = .ok (.iload_n 1, 1) := by decide +kernel
theorem dX4_say_1 : decode cX4_say 1 = .ok (.bipush 33, 2) := by decide +kernel
theorem dX4_say_3 : decode cX4_say 3 = .ok (.bipush 126, 2) := by decide +kernel
theorem dX4_say_5 : decode cX4_say 5 = .ok (.invokestatic 54, 3) := by decide +kernel
theorem dX4_say_8 : decode cX4_say 8 = .ok (.ifCond .ne 6, 3) := by decide +kernel
theorem dX4_say_11 : decode cX4_say 11 = .ok (.bipush (-2), 2) := by decide +kernel
theorem dX4_say_13 : decode cX4_say 13 = .ok (.ireturn, 1) := by decide +kernel
theorem dX4_say_14 : decode cX4_say 14 = .ok (.aload_n 0, 1) := by decide +kernel
theorem dX4_say_15 : decode cX4_say 15 = .ok (.getfield 29, 3) := by decide +kernel
theorem dX4_say_18 : decode cX4_say 18 = .ok (.getfield 93, 3) := by decide +kernel
theorem dX4_say_21 : decode cX4_say 21 = .ok (.bipush 40, 2) := by decide +kernel
theorem dX4_say_23 : decode cX4_say 23 = .ok (.if_icmp .lt 6, 3) := by decide +kernel
theorem dX4_say_26 : decode cX4_say 26 = .ok (.bipush (-4), 2) := by decide +kernel
theorem dX4_say_28 : decode cX4_say 28 = .ok (.ireturn, 1) := by decide +kernel
theorem dX4_say_29 : decode cX4_say 29 = .ok (.aload_n 0, 1) := by decide +kernel
theorem dX4_say_30 : decode cX4_say 30 = .ok (.getfield 29, 3) := by decide +kernel
theorem dX4_say_33 : decode cX4_say 33 = .ok (.iload_n 1, 1) := by decide +kernel
theorem dX4_say_34 : decode cX4_say 34 = .ok (.invokevirtual 96, 3) := by decide +kernel
theorem dX4_say_37 : decode cX4_say 37 = .ok (.aload_n 0, 1) := by decide +kernel
theorem dX4_say_38 : decode cX4_say 38 = .ok (.getfield 29, 3) := by decide +kernel
theorem dX4_say_41 : decode cX4_say 41 = .ok (.getfield 93, 3) := by decide +kernel
theorem dX4_say_44 : decode cX4_say 44 = .ok (.ireturn, 1) := by decide +kernel
theorem dX4_wipe_0 : decode cX4_wipe 0 = .ok (.aload_n 0, 1) := by decide +kernel
theorem dX4_wipe_1 : decode cX4_wipe 1 = .ok (.getfield 29, 3) := by decide +kernel
theorem dX4_wipe_4 : decode cX4_wipe 4 = .ok (.getfield 93, 3) := by decide +kernel
theorem dX4_wipe_7 : decode cX4_wipe 7 = .ok (.istore_n 1, 1) := by decide +kernel
theorem dX4_wipe_8 : decode cX4_wipe 8 = .ok (.aload_n 0, 1) := by decide +kernel
theorem dX4_wipe_9 : decode cX4_wipe 9 = .ok (.getfield 29, 3) := by decide +kernel
theorem dX4_wipe_12 : decode cX4_wipe 12 = .ok (.iconst 0, 1) := by decide +kernel
theorem dX4_wipe_13 : decode cX4_wipe 13 = .ok (.putfield 93, 3) := by decide +kernel
theorem dX4_wipe_16 : decode cX4_wipe 16 = .ok (.iload_n 1, 1) := by decide +kernel
theorem dX4_wipe_17 : decode cX4_wipe 17 = .ok (.ireturn, 1) := by decide +kernel
theorem dX4_fault_0 : decode cX4_fault 0 = .ok (.aload_n 0, 1) := by decide +kernel
theorem dX4_fault_1 : decode cX4_fault 1 = .ok (.getfield 29, 3) := by decide +kernel
theorem dX4_fault_4 : decode cX4_fault 4 = .ok (.invokevirtual 100, 3) := by decide +kernel
theorem dX4_fault_7 : decode cX4_fault 7 = .ok (.ireturn, 1) := by decide +kernel
theorem dX4_read_0 : decode cX4_read 0 = .ok (.aload_n 0, 1) := by decide +kernel
theorem dX4_read_1 : decode cX4_read 1 = .ok (.getfield 29, 3) := by decide +kernel
theorem dX4_read_4 : decode cX4_read 4 = .ok (.invokevirtual 100, 3) := by decide +kernel
theorem dX4_read_7 : decode cX4_read 7 = .ok (.bipush (-6), 2) := by decide +kernel
theorem dX4_read_9 : decode cX4_read 9 = .ok (.if_icmp .eq 6, 3) := by decide +kernel
theorem dX4_read_12 : decode cX4_read 12 = .ok (.bipush (-7), 2) := by decide +kernel
theorem dX4_read_14 : decode cX4_read 14 = .ok (.ireturn, 1) := by decide +kernel
theorem dX4_read_15 : decode cX4_read 15 = .ok (.aload_n 0, 1) := by decide +kernel
theorem dX4_read_16 : decode cX4_read 16 = .ok (.getfield 10, 3) := by decide +kernel
theorem dX4_read_19 : decode cX4_read 19 = .ok (.getfield 74, 3) := by decide +kernel
theorem dX4_read_22 : decode cX4_read 22 = .ok (.aload_n 0, 1) := by decide +kernel
theorem dX4_read_23 : decode cX4_read 23 = .ok (.getfield 29, 3) := by decide +kernel
theorem dX4_read_26 : decode cX4_read 26 = .ok (.getfield 93, 3) := by decide +kernel
theorem dX4_read_29 : decode cX4_read 29 = .ok (.iconst 4, 1) := by decide +kernel
theorem dX4_read_30 : decode cX4_read 30 = .ok (.idiv, 1) := by decide +kernel
theorem dX4_read_31 : decode cX4_read 31 = .ok (.iadd, 1) := by decide +kernel
theorem dX4_read_32 : decode cX4_read 32 = .ok (.bipush 10, 2) := by decide +kernel
theorem dX4_read_34 : decode cX4_read 34 = .ok (.if_icmp .le 6, 3) := by decide +kernel
theorem dX4_read_37 : decode cX4_read 37 = .ok (.bipush (-4), 2) := by decide +kernel
theorem dX4_read_39 : decode cX4_read 39 = .ok (.ireturn, 1) := by decide +kernel
theorem dX4_read_40 : decode cX4_read 40 = .ok (.aload_n 0, 1) := by decide +kernel
theorem dX4_read_41 : decode cX4_read 41 = .ok (.getfield 29, 3) := by decide +kernel
theorem dX4_read_44 : decode cX4_read 44 = .ok (.aload_n 0, 1) := by decide +kernel
theorem dX4_read_45 : decode cX4_read 45 = .ok (.getfield 10, 3) := by decide +kernel
theorem dX4_read_48 : decode cX4_read 48 = .ok (.invokevirtual 104, 3) := by decide +kernel
theorem dX4_read_51 : decode cX4_read 51 = .ok (.aload_n 0, 1) := by decide +kernel
theorem dX4_read_52 : decode cX4_read 52 = .ok (.getfield 10, 3) := by decide +kernel
theorem dX4_read_55 : decode cX4_read 55 = .ok (.getfield 74, 3) := by decide +kernel
theorem dX4_read_58 : decode cX4_read 58 = .ok (.ireturn, 1) := by decide +kernel
theorem dX4_told_0 : decode cX4_told 0 = .ok (.iload_n 1, 1) := by decide +kernel
theorem dX4_told_1 : decode cX4_told 1 = .ok (.invokestatic 50, 3) := by decide +kernel
theorem dX4_told_4 : decode cX4_told 4 = .ok (.ifCond .ne 5, 3) := by decide +kernel
theorem dX4_told_7 : decode cX4_told 7 = .ok (.iconst (-1), 1) := by decide +kernel
theorem dX4_told_8 : decode cX4_told 8 = .ok (.ireturn, 1) := by decide +kernel
theorem dX4_told_9 : decode cX4_told 9 = .ok (.iload_n 2, 1) := by decide +kernel
theorem dX4_told_10 : decode cX4_told 10 = .ok (.tableswitch 98 0 4 #[34, 44, 54, 74, 86], 34) := by decide +kernel
theorem dX4_told_44 : decode cX4_told 44 = .ok (.aload_n 0, 1) := by decide +kernel
theorem dX4_told_45 : decode cX4_told 45 = .ok (.getfield 10, 3) := by decide +kernel
theorem dX4_told_48 : decode cX4_told 48 = .ok (.getfield 58, 3) := by decide +kernel
theorem dX4_told_51 : decode cX4_told 51 = .ok (.iload_n 1, 1) := by decide +kernel
theorem dX4_told_52 : decode cX4_told 52 = .ok (.iaload, 1) := by decide +kernel
theorem dX4_told_53 : decode cX4_told 53 = .ok (.ireturn, 1) := by decide +kernel
theorem dX4_told_54 : decode cX4_told 54 = .ok (.aload_n 0, 1) := by decide +kernel
theorem dX4_told_55 : decode cX4_told 55 = .ok (.getfield 10, 3) := by decide +kernel
theorem dX4_told_58 : decode cX4_told 58 = .ok (.getfield 62, 3) := by decide +kernel
theorem dX4_told_61 : decode cX4_told 61 = .ok (.iload_n 1, 1) := by decide +kernel
theorem dX4_told_62 : decode cX4_told 62 = .ok (.iaload, 1) := by decide +kernel
theorem dX4_told_63 : decode cX4_told 63 = .ok (.ireturn, 1) := by decide +kernel
theorem dX4_told_64 : decode cX4_told 64 = .ok (.aload_n 0, 1) := by decide +kernel
theorem dX4_told_65 : decode cX4_told 65 = .ok (.getfield 10, 3) := by decide +kernel
theorem dX4_told_68 : decode cX4_told 68 = .ok (.getfield 65, 3) := by decide +kernel
theorem dX4_told_71 : decode cX4_told 71 = .ok (.iload_n 1, 1) := by decide +kernel
theorem dX4_told_72 : decode cX4_told 72 = .ok (.invokestatic 108, 3) := by decide +kernel
theorem dX4_told_75 : decode cX4_told 75 = .ok (.ifCond .eq 7, 3) := by decide +kernel
theorem dX4_told_78 : decode cX4_told 78 = .ok (.iconst 1, 1) := by decide +kernel
theorem dX4_told_79 : decode cX4_told 79 = .ok (.goto 4, 3) := by decide +kernel
theorem dX4_told_82 : decode cX4_told 82 = .ok (.iconst 0, 1) := by decide +kernel
theorem dX4_told_83 : decode cX4_told 83 = .ok (.ireturn, 1) := by decide +kernel
theorem dX4_told_84 : decode cX4_told 84 = .ok (.aload_n 0, 1) := by decide +kernel
theorem dX4_told_85 : decode cX4_told 85 = .ok (.getfield 10, 3) := by decide +kernel
theorem dX4_told_88 : decode cX4_told 88 = .ok (.iload_n 1, 1) := by decide +kernel
theorem dX4_told_89 : decode cX4_told 89 = .ok (.invokevirtual 112, 3) := by decide +kernel
theorem dX4_told_92 : decode cX4_told 92 = .ok (.invokestatic 116, 3) := by decide +kernel
theorem dX4_told_95 : decode cX4_told 95 = .ok (.ireturn, 1) := by decide +kernel
theorem dX4_told_96 : decode cX4_told 96 = .ok (.aload_n 0, 1) := by decide +kernel
theorem dX4_told_97 : decode cX4_told 97 = .ok (.getfield 10, 3) := by decide +kernel
theorem dX4_told_100 : decode cX4_told 100 = .ok (.iload_n 1, 1) := by decide +kernel
theorem dX4_told_101 : decode cX4_told 101 = .ok (.invokevirtual 120, 3) := by decide +kernel
theorem dX4_told_104 : decode cX4_told 104 = .ok (.invokestatic 116, 3) := by decide +kernel
theorem dX4_told_107 : decode cX4_told 107 = .ok (.ireturn, 1) := by decide +kernel
theorem dX4_told_108 : decode cX4_told 108 = .ok (.bipush (-2), 2) := by decide +kernel
theorem dX4_told_110 : decode cX4_told 110 = .ok (.ireturn, 1) := by decide +kernel
theorem dX4_of_0 : decode cX4_of 0 = .ok (.aload_n 0, 1) := by decide +kernel
theorem dX4_of_1 : decode cX4_of 1 = .ok (.iload_n 1, 1) := by decide +kernel
theorem dX4_of_2 : decode cX4_of 2 = .ok (.invokevirtual 81, 3) := by decide +kernel
theorem dX4_of_5 : decode cX4_of 5 = .ok (.ifCond .ne 5, 3) := by decide +kernel
theorem dX4_of_8 : decode cX4_of 8 = .ok (.iconst (-1), 1) := by decide +kernel
theorem dX4_of_9 : decode cX4_of 9 = .ok (.ireturn, 1) := by decide +kernel
theorem dX4_of_10 : decode cX4_of 10 = .ok (.iload_n 2, 1) := by decide +kernel
theorem dX4_of_11 : decode cX4_of 11 = .ok (.tableswitch 82 0 4 #[33, 43, 53, 63, 73], 33) := by decide +kernel
theorem dX4_of_44 : decode cX4_of 44 = .ok (.aload_n 0, 1) := by decide +kernel
theorem dX4_of_45 : decode cX4_of 45 = .ok (.getfield 10, 3) := by decide +kernel
theorem dX4_of_48 : decode cX4_of 48 = .ok (.getfield 123, 3) := by decide +kernel
theorem dX4_of_51 : decode cX4_of 51 = .ok (.iload_n 1, 1) := by decide +kernel
theorem dX4_of_52 : decode cX4_of 52 = .ok (.iaload, 1) := by decide +kernel
theorem dX4_of_53 : decode cX4_of 53 = .ok (.ireturn, 1) := by decide +kernel
theorem dX4_of_54 : decode cX4_of 54 = .ok (.aload_n 0, 1) := by decide +kernel
theorem dX4_of_55 : decode cX4_of 55 = .ok (.getfield 10, 3) := by decide +kernel
theorem dX4_of_58 : decode cX4_of 58 = .ok (.getfield 126, 3) := by decide +kernel
theorem dX4_of_61 : decode cX4_of 61 = .ok (.iload_n 1, 1) := by decide +kernel
theorem dX4_of_62 : decode cX4_of 62 = .ok (.iaload, 1) := by decide +kernel
theorem dX4_of_63 : decode cX4_of 63 = .ok (.ireturn, 1) := by decide +kernel
theorem dX4_of_64 : decode cX4_of 64 = .ok (.aload_n 0, 1) := by decide +kernel
theorem dX4_of_65 : decode cX4_of 65 = .ok (.getfield 10, 3) := by decide +kernel
theorem dX4_of_68 : decode cX4_of 68 = .ok (.getfield 84, 3) := by decide +kernel
theorem dX4_of_71 : decode cX4_of 71 = .ok (.iload_n 1, 1) := by decide +kernel
theorem dX4_of_72 : decode cX4_of 72 = .ok (.iaload, 1) := by decide +kernel
theorem dX4_of_73 : decode cX4_of 73 = .ok (.ireturn, 1) := by decide +kernel
theorem dX4_of_74 : decode cX4_of 74 = .ok (.aload_n 0, 1) := by decide +kernel
theorem dX4_of_75 : decode cX4_of 75 = .ok (.getfield 10, 3) := by decide +kernel
theorem dX4_of_78 : decode cX4_of 78 = .ok (.getfield 129, 3) := by decide +kernel
theorem dX4_of_81 : decode cX4_of 81 = .ok (.iload_n 1, 1) := by decide +kernel
theorem dX4_of_82 : decode cX4_of 82 = .ok (.iaload, 1) := by decide +kernel
theorem dX4_of_83 : decode cX4_of 83 = .ok (.ireturn, 1) := by decide +kernel
theorem dX4_of_84 : decode cX4_of 84 = .ok (.aload_n 0, 1) := by decide +kernel
theorem dX4_of_85 : decode cX4_of 85 = .ok (.getfield 10, 3) := by decide +kernel
theorem dX4_of_88 : decode cX4_of 88 = .ok (.iload_n 1, 1) := by decide +kernel
theorem dX4_of_89 : decode cX4_of 89 = .ok (.invokevirtual 87, 3) := by decide +kernel
theorem dX4_of_92 : decode cX4_of 92 = .ok (.ireturn, 1) := by decide +kernel
theorem dX4_of_93 : decode cX4_of 93 = .ok (.bipush (-2), 2) := by decide +kernel
theorem dX4_of_95 : decode cX4_of 95 = .ok (.ireturn, 1) := by decide +kernel
theorem dX4_out_0 : decode cX4_out 0 = .ok (.iload_n 1, 1) := by decide +kernel
theorem dX4_out_1 : decode cX4_out 1 = .ok (.iconst 0, 1) := by decide +kernel
theorem dX4_out_2 : decode cX4_out 2 = .ok (.bipush 60, 2) := by decide +kernel
theorem dX4_out_4 : decode cX4_out 4 = .ok (.invokestatic 54, 3) := by decide +kernel
theorem dX4_out_7 : decode cX4_out 7 = .ok (.ifCond .ne 6, 3) := by decide +kernel
theorem dX4_out_10 : decode cX4_out 10 = .ok (.bipush (-2), 2) := by decide +kernel
theorem dX4_out_12 : decode cX4_out 12 = .ok (.ireturn, 1) := by decide +kernel
theorem dX4_out_13 : decode cX4_out 13 = .ok (.aload_n 0, 1) := by decide +kernel
theorem dX4_out_14 : decode cX4_out 14 = .ok (.getfield 36, 3) := by decide +kernel
theorem dX4_out_17 : decode cX4_out 17 = .ok (.aload_n 0, 1) := by decide +kernel
theorem dX4_out_18 : decode cX4_out 18 = .ok (.getfield 10, 3) := by decide +kernel
theorem dX4_out_21 : decode cX4_out 21 = .ok (.invokevirtual 132, 3) := by decide +kernel
theorem dX4_out_24 : decode cX4_out 24 = .ok (.aload_n 0, 1) := by decide +kernel
theorem dX4_out_25 : decode cX4_out 25 = .ok (.getfield 36, 3) := by decide +kernel
theorem dX4_out_28 : decode cX4_out 28 = .ok (.iload_n 1, 1) := by decide +kernel
theorem dX4_out_29 : decode cX4_out 29 = .ok (.invokevirtual 135, 3) := by decide +kernel
theorem dX4_out_32 : decode cX4_out 32 = .ok (.ireturn, 1) := by decide +kernel
theorem dX4_last_0 : decode cX4_last 0 = .ok (.aload_n 0, 1) := by decide +kernel
theorem dX4_last_1 : decode cX4_last 1 = .ok (.invokevirtual 138, 3) := by decide +kernel
theorem dX4_last_4 : decode cX4_last 4 = .ok (.ireturn, 1) := by decide +kernel
theorem dX4_helps_0 : decode cX4_helps 0 = .ok (.aload_n 0, 1) := by decide +kernel
theorem dX4_helps_1 : decode cX4_helps 1 = .ok (.invokevirtual 138, 3) := by decide +kernel
theorem dX4_helps_4 : decode cX4_helps 4 = .ok (.istore_n 1, 1) := by decide +kernel
theorem dX4_helps_5 : decode cX4_helps 5 = .ok (.iload_n 1, 1) := by decide +kernel
theorem dX4_helps_6 : decode cX4_helps 6 = .ok (.ifCond .ne 5, 3) := by decide +kernel
theorem dX4_helps_9 : decode cX4_helps 9 = .ok (.iconst 0, 1) := by decide +kernel
theorem dX4_helps_10 : decode cX4_helps 10 = .ok (.ireturn, 1) := by decide +kernel
theorem dX4_helps_11 : decode cX4_helps 11 = .ok (.bipush 60, 2) := by decide +kernel
theorem dX4_helps_13 : decode cX4_helps 13 = .ok (.istore_n 2, 1) := by decide +kernel
theorem dX4_helps_14 : decode cX4_helps 14 = .ok (.iload_n 1, 1) := by decide +kernel
theorem dX4_helps_15 : decode cX4_helps 15 = .ok (.bipush (-6), 2) := by decide +kernel
theorem dX4_helps_17 : decode cX4_helps 17 = .ok (.if_icmp .eq 27, 3) := by decide +kernel
theorem dX4_helps_20 : decode cX4_helps 20 = .ok (.iload_n 1, 1) := by decide +kernel
theorem dX4_helps_21 : decode cX4_helps 21 = .ok (.iconst 1, 1) := by decide +kernel
theorem dX4_helps_22 : decode cX4_helps 22 = .ok (.isub, 1) := by decide +kernel
theorem dX4_helps_23 : decode cX4_helps 23 = .ok (.istore_n 2, 1) := by decide +kernel
theorem dX4_helps_24 : decode cX4_helps 24 = .ok (.aload_n 0, 1) := by decide +kernel
theorem dX4_helps_25 : decode cX4_helps 25 = .ok (.getfield 36, 3) := by decide +kernel
theorem dX4_helps_28 : decode cX4_helps 28 = .ok (.aload_n 0, 1) := by decide +kernel
theorem dX4_helps_29 : decode cX4_helps 29 = .ok (.getfield 10, 3) := by decide +kernel
theorem dX4_helps_32 : decode cX4_helps 32 = .ok (.invokevirtual 132, 3) := by decide +kernel
theorem dX4_helps_35 : decode cX4_helps 35 = .ok (.aload_n 0, 1) := by decide +kernel
theorem dX4_helps_36 : decode cX4_helps 36 = .ok (.getfield 36, 3) := by decide +kernel
theorem dX4_helps_39 : decode cX4_helps 39 = .ok (.iload_n 2, 1) := by decide +kernel
theorem dX4_helps_40 : decode cX4_helps 40 = .ok (.invokevirtual 135, 3) := by decide +kernel
theorem dX4_helps_43 : decode cX4_helps 43 = .ok (.pop, 1) := by decide +kernel
theorem dX4_helps_44 : decode cX4_helps 44 = .ok (.iconst 0, 1) := by decide +kernel
theorem dX4_helps_45 : decode cX4_helps 45 = .ok (.istore_n 3, 1) := by decide +kernel
theorem dX4_helps_46 : decode cX4_helps 46 = .ok (.iconst 0, 1) := by decide +kernel
theorem dX4_helps_47 : decode cX4_helps 47 = .ok (.istore 4, 2) := by decide +kernel
theorem dX4_helps_49 : decode cX4_helps 49 = .ok (.iload 4, 2) := by decide +kernel
theorem dX4_helps_51 : decode cX4_helps 51 = .ok (.aload_n 0, 1) := by decide +kernel
theorem dX4_helps_52 : decode cX4_helps 52 = .ok (.getfield 10, 3) := by decide +kernel
theorem dX4_helps_55 : decode cX4_helps 55 = .ok (.getfield 74, 3) := by decide +kernel
theorem dX4_helps_58 : decode cX4_helps 58 = .ok (.if_icmp .ge 59, 3) := by decide +kernel
theorem dX4_helps_61 : decode cX4_helps 61 = .ok (.aload_n 0, 1) := by decide +kernel
theorem dX4_helps_62 : decode cX4_helps 62 = .ok (.getfield 40, 3) := by decide +kernel
theorem dX4_helps_65 : decode cX4_helps 65 = .ok (.aload_n 0, 1) := by decide +kernel
theorem dX4_helps_66 : decode cX4_helps 66 = .ok (.getfield 36, 3) := by decide +kernel
theorem dX4_helps_69 : decode cX4_helps 69 = .ok (.invokevirtual 141, 3) := by decide +kernel
theorem dX4_helps_72 : decode cX4_helps 72 = .ok (.aload_n 0, 1) := by decide +kernel
theorem dX4_helps_73 : decode cX4_helps 73 = .ok (.getfield 40, 3) := by decide +kernel
theorem dX4_helps_76 : decode cX4_helps 76 = .ok (.iload 4, 2) := by decide +kernel
theorem dX4_helps_78 : decode cX4_helps 78 = .ok (.aload_n 0, 1) := by decide +kernel
theorem dX4_helps_79 : decode cX4_helps 79 = .ok (.getfield 10, 3) := by decide +kernel
theorem dX4_helps_82 : decode cX4_helps 82 = .ok (.getfield 84, 3) := by decide +kernel
theorem dX4_helps_85 : decode cX4_helps 85 = .ok (.iload 4, 2) := by decide +kernel
theorem dX4_helps_87 : decode cX4_helps 87 = .ok (.iaload, 1) := by decide +kernel
theorem dX4_helps_88 : decode cX4_helps 88 = .ok (.iconst 1, 1) := by decide +kernel
theorem dX4_helps_89 : decode cX4_helps 89 = .ok (.iadd, 1) := by decide +kernel
theorem dX4_helps_90 : decode cX4_helps 90 = .ok (.invokevirtual 145, 3) := by decide +kernel
theorem dX4_helps_93 : decode cX4_helps 93 = .ok (.aload_n 0, 1) := by decide +kernel
theorem dX4_helps_94 : decode cX4_helps 94 = .ok (.getfield 40, 3) := by decide +kernel
theorem dX4_helps_97 : decode cX4_helps 97 = .ok (.iload_n 2, 1) := by decide +kernel
theorem dX4_helps_98 : decode cX4_helps 98 = .ok (.invokevirtual 149, 3) := by decide +kernel
theorem dX4_helps_101 : decode cX4_helps 101 = .ok (.ifCond .eq 10, 3) := by decide +kernel
theorem dX4_helps_104 : decode cX4_helps 104 = .ok (.iload_n 3, 1) := by decide +kernel
theorem dX4_helps_105 : decode cX4_helps 105 = .ok (.iconst 1, 1) := by decide +kernel
theorem dX4_helps_106 : decode cX4_helps 106 = .ok (.iload 4, 2) := by decide +kernel
theorem dX4_helps_108 : decode cX4_helps 108 = .ok (.ishl, 1) := by decide +kernel
theorem dX4_helps_109 : decode cX4_helps 109 = .ok (.ior, 1) := by decide +kernel
theorem dX4_helps_110 : decode cX4_helps 110 = .ok (.istore_n 3, 1) := by decide +kernel
theorem dX4_helps_111 : decode cX4_helps 111 = .ok (.iinc 4 1, 3) := by decide +kernel
theorem dX4_helps_114 : decode cX4_helps 114 = .ok (.goto (-65), 3) := by decide +kernel
theorem dX4_helps_117 : decode cX4_helps 117 = .ok (.iload_n 3, 1) := by decide +kernel
theorem dX4_helps_118 : decode cX4_helps 118 = .ok (.ireturn, 1) := by decide +kernel
theorem dX4_needed_0 : decode cX4_needed 0 = .ok (.aload_n 0, 1) := by decide +kernel
theorem dX4_needed_1 : decode cX4_needed 1 = .ok (.invokevirtual 138, 3) := by decide +kernel
theorem dX4_needed_4 : decode cX4_needed 4 = .ok (.istore_n 1, 1) := by decide +kernel
theorem dX4_needed_5 : decode cX4_needed 5 = .ok (.iload_n 1, 1) := by decide +kernel
theorem dX4_needed_6 : decode cX4_needed 6 = .ok (.bipush (-6), 2) := by decide +kernel
theorem dX4_needed_8 : decode cX4_needed 8 = .ok (.if_icmp .ne 6, 3) := by decide +kernel
theorem dX4_needed_11 : decode cX4_needed 11 = .ok (.bipush (-6), 2) := by decide +kernel
theorem dX4_needed_13 : decode cX4_needed 13 = .ok (.ireturn, 1) := by decide +kernel
theorem dX4_needed_14 : decode cX4_needed 14 = .ok (.iconst 0, 1) := by decide +kernel
theorem dX4_needed_15 : decode cX4_needed 15 = .ok (.istore_n 2, 1) := by decide +kernel
theorem dX4_needed_16 : decode cX4_needed 16 = .ok (.iconst 0, 1) := by decide +kernel
theorem dX4_needed_17 : decode cX4_needed 17 = .ok (.istore_n 3, 1) := by decide +kernel
theorem dX4_needed_18 : decode cX4_needed 18 = .ok (.iload_n 3, 1) := by decide +kernel
theorem dX4_needed_19 : decode cX4_needed 19 = .ok (.aload_n 0, 1) := by decide +kernel
theorem dX4_needed_20 : decode cX4_needed 20 = .ok (.getfield 10, 3) := by decide +kernel
theorem dX4_needed_23 : decode cX4_needed 23 = .ok (.getfield 74, 3) := by decide +kernel
theorem dX4_needed_26 : decode cX4_needed 26 = .ok (.if_icmp .ge 36, 3) := by decide +kernel
theorem dX4_needed_29 : decode cX4_needed 29 = .ok (.aload_n 0, 1) := by decide +kernel
theorem dX4_needed_30 : decode cX4_needed 30 = .ok (.getfield 36, 3) := by decide +kernel
theorem dX4_needed_33 : decode cX4_needed 33 = .ok (.iload_n 3, 1) := by decide +kernel
theorem dX4_needed_34 : decode cX4_needed 34 = .ok (.invokevirtual 152, 3) := by decide +kernel
theorem dX4_needed_37 : decode cX4_needed 37 = .ok (.ifCond .lt 19, 3) := by decide +kernel
theorem dX4_needed_40 : decode cX4_needed 40 = .ok (.aload_n 0, 1) := by decide +kernel
theorem dX4_needed_41 : decode cX4_needed 41 = .ok (.iload_n 3, 1) := by decide +kernel
theorem dX4_needed_42 : decode cX4_needed 42 = .ok (.iconst 0, 1) := by decide +kernel
theorem dX4_needed_43 : decode cX4_needed 43 = .ok (.iload_n 1, 1) := by decide +kernel
theorem dX4_needed_44 : decode cX4_needed 44 = .ok (.invokevirtual 155, 3) := by decide +kernel
theorem dX4_needed_47 : decode cX4_needed 47 = .ok (.ifCond .ne 9, 3) := by decide +kernel
theorem dX4_needed_50 : decode cX4_needed 50 = .ok (.iload_n 2, 1) := by decide +kernel
theorem dX4_needed_51 : decode cX4_needed 51 = .ok (.iconst 1, 1) := by decide +kernel
theorem dX4_needed_52 : decode cX4_needed 52 = .ok (.iload_n 3, 1) := by decide +kernel
theorem dX4_needed_53 : decode cX4_needed 53 = .ok (.ishl, 1) := by decide +kernel
theorem dX4_needed_54 : decode cX4_needed 54 = .ok (.ior, 1) := by decide +kernel
theorem dX4_needed_55 : decode cX4_needed 55 = .ok (.istore_n 2, 1) := by decide +kernel
theorem dX4_needed_56 : decode cX4_needed 56 = .ok (.iinc 3 1, 3) := by decide +kernel
theorem dX4_needed_59 : decode cX4_needed 59 = .ok (.goto (-41), 3) := by decide +kernel
theorem dX4_needed_62 : decode cX4_needed 62 = .ok (.iload_n 2, 1) := by decide +kernel
theorem dX4_needed_63 : decode cX4_needed 63 = .ok (.ireturn, 1) := by decide +kernel
theorem dX4_door_0 : decode cX4_door 0 = .ok (.aload_n 0, 1) := by decide +kernel
theorem dX4_door_1 : decode cX4_door 1 = .ok (.iload_n 1, 1) := by decide +kernel
theorem dX4_door_2 : decode cX4_door 2 = .ok (.invokevirtual 81, 3) := by decide +kernel
theorem dX4_door_5 : decode cX4_door 5 = .ok (.ifCond .ne 5, 3) := by decide +kernel
theorem dX4_door_8 : decode cX4_door 8 = .ok (.iconst (-1), 1) := by decide +kernel
theorem dX4_door_9 : decode cX4_door 9 = .ok (.ireturn, 1) := by decide +kernel
theorem dX4_door_10 : decode cX4_door 10 = .ok (.aload_n 0, 1) := by decide +kernel
theorem dX4_door_11 : decode cX4_door 11 = .ok (.invokevirtual 138, 3) := by decide +kernel
theorem dX4_door_14 : decode cX4_door 14 = .ok (.istore_n 2, 1) := by decide +kernel
theorem dX4_door_15 : decode cX4_door 15 = .ok (.iload_n 2, 1) := by decide +kernel
theorem dX4_door_16 : decode cX4_door 16 = .ok (.bipush (-6), 2) := by decide +kernel
theorem dX4_door_18 : decode cX4_door 18 = .ok (.if_icmp .ne 6, 3) := by decide +kernel
theorem dX4_door_21 : decode cX4_door 21 = .ok (.bipush (-6), 2) := by decide +kernel
theorem dX4_door_23 : decode cX4_door 23 = .ok (.ireturn, 1) := by decide +kernel
theorem dX4_door_24 : decode cX4_door 24 = .ok (.iconst 0, 1) := by decide +kernel
theorem dX4_door_25 : decode cX4_door 25 = .ok (.istore_n 3, 1) := by decide +kernel
theorem dX4_door_26 : decode cX4_door 26 = .ok (.aload_n 0, 1) := by decide +kernel
theorem dX4_door_27 : decode cX4_door 27 = .ok (.getfield 36, 3) := by decide +kernel
theorem dX4_door_30 : decode cX4_door 30 = .ok (.iload_n 1, 1) := by decide +kernel
theorem dX4_door_31 : decode cX4_door 31 = .ok (.invokevirtual 152, 3) := by decide +kernel
theorem dX4_door_34 : decode cX4_door 34 = .ok (.iconst 1, 1) := by decide +kernel
theorem dX4_door_35 : decode cX4_door 35 = .ok (.iadd, 1) := by decide +kernel
theorem dX4_door_36 : decode cX4_door 36 = .ok (.istore 4, 2) := by decide +kernel
theorem dX4_door_38 : decode cX4_door 38 = .ok (.iconst 0, 1) := by decide +kernel
theorem dX4_door_39 : decode cX4_door 39 = .ok (.istore 5, 2) := by decide +kernel
theorem dX4_door_41 : decode cX4_door 41 = .ok (.iload 5, 2) := by decide +kernel
theorem dX4_door_43 : decode cX4_door 43 = .ok (.bipush 60, 2) := by decide +kernel
theorem dX4_door_45 : decode cX4_door 45 = .ok (.if_icmp .gt 46, 3) := by decide +kernel
theorem dX4_door_48 : decode cX4_door 48 = .ok (.iload_n 3, 1) := by decide +kernel
theorem dX4_door_49 : decode cX4_door 49 = .ok (.iload 4, 2) := by decide +kernel
theorem dX4_door_51 : decode cX4_door 51 = .ok (.if_icmp .ge 40, 3) := by decide +kernel
theorem dX4_door_54 : decode cX4_door 54 = .ok (.iload_n 3, 1) := by decide +kernel
theorem dX4_door_55 : decode cX4_door 55 = .ok (.iload 4, 2) := by decide +kernel
theorem dX4_door_57 : decode cX4_door 57 = .ok (.iadd, 1) := by decide +kernel
theorem dX4_door_58 : decode cX4_door 58 = .ok (.iconst 2, 1) := by decide +kernel
theorem dX4_door_59 : decode cX4_door 59 = .ok (.idiv, 1) := by decide +kernel
theorem dX4_door_60 : decode cX4_door 60 = .ok (.istore 6, 2) := by decide +kernel
theorem dX4_door_62 : decode cX4_door 62 = .ok (.aload_n 0, 1) := by decide +kernel
theorem dX4_door_63 : decode cX4_door 63 = .ok (.iload_n 1, 1) := by decide +kernel
theorem dX4_door_64 : decode cX4_door 64 = .ok (.iload 6, 2) := by decide +kernel
theorem dX4_door_66 : decode cX4_door 66 = .ok (.iload_n 2, 1) := by decide +kernel
theorem dX4_door_67 : decode cX4_door 67 = .ok (.invokevirtual 155, 3) := by decide +kernel
theorem dX4_door_70 : decode cX4_door 70 = .ok (.ifCond .eq 10, 3) := by decide +kernel
theorem dX4_door_73 : decode cX4_door 73 = .ok (.iload 6, 2) := by decide +kernel
theorem dX4_door_75 : decode cX4_door 75 = .ok (.istore 4, 2) := by decide +kernel
theorem dX4_door_77 : decode cX4_door 77 = .ok (.goto 8, 3) := by decide +kernel
theorem dX4_door_80 : decode cX4_door 80 = .ok (.iload 6, 2) := by decide +kernel
theorem dX4_door_82 : decode cX4_door 82 = .ok (.iconst 1, 1) := by decide +kernel
theorem dX4_door_83 : decode cX4_door 83 = .ok (.iadd, 1) := by decide +kernel
theorem dX4_door_84 : decode cX4_door 84 = .ok (.istore_n 3, 1) := by decide +kernel
theorem dX4_door_85 : decode cX4_door 85 = .ok (.iinc 5 1, 3) := by decide +kernel
theorem dX4_door_88 : decode cX4_door 88 = .ok (.goto (-47), 3) := by decide +kernel
theorem dX4_door_91 : decode cX4_door 91 = .ok (.iload_n 3, 1) := by decide +kernel
theorem dX4_door_92 : decode cX4_door 92 = .ok (.ireturn, 1) := by decide +kernel
theorem dX4_rush_0 : decode cX4_rush 0 = .ok (.iload_n 1, 1) := by decide +kernel
theorem dX4_rush_1 : decode cX4_rush 1 = .ok (.iconst 0, 1) := by decide +kernel
theorem dX4_rush_2 : decode cX4_rush 2 = .ok (.sipush 200, 3) := by decide +kernel
theorem dX4_rush_5 : decode cX4_rush 5 = .ok (.invokestatic 54, 3) := by decide +kernel
theorem dX4_rush_8 : decode cX4_rush 8 = .ok (.ifCond .ne 6, 3) := by decide +kernel
theorem dX4_rush_11 : decode cX4_rush 11 = .ok (.bipush (-2), 2) := by decide +kernel
theorem dX4_rush_13 : decode cX4_rush 13 = .ok (.ireturn, 1) := by decide +kernel
theorem dX4_rush_14 : decode cX4_rush 14 = .ok (.aload_n 0, 1) := by decide +kernel
theorem dX4_rush_15 : decode cX4_rush 15 = .ok (.getfield 46, 3) := by decide +kernel
theorem dX4_rush_18 : decode cX4_rush 18 = .ok (.aload_n 0, 1) := by decide +kernel
theorem dX4_rush_19 : decode cX4_rush 19 = .ok (.getfield 10, 3) := by decide +kernel
theorem dX4_rush_22 : decode cX4_rush 22 = .ok (.invokevirtual 158, 3) := by decide +kernel
theorem dX4_rush_25 : decode cX4_rush 25 = .ok (.iconst 0, 1) := by decide +kernel
theorem dX4_rush_26 : decode cX4_rush 26 = .ok (.istore_n 2, 1) := by decide +kernel
theorem dX4_rush_27 : decode cX4_rush 27 = .ok (.iload_n 2, 1) := by decide +kernel
theorem dX4_rush_28 : decode cX4_rush 28 = .ok (.iload_n 1, 1) := by decide +kernel
theorem dX4_rush_29 : decode cX4_rush 29 = .ok (.if_icmp .ge 29, 3) := by decide +kernel
theorem dX4_rush_32 : decode cX4_rush 32 = .ok (.aload_n 0, 1) := by decide +kernel
theorem dX4_rush_33 : decode cX4_rush 33 = .ok (.getfield 46, 3) := by decide +kernel
theorem dX4_rush_36 : decode cX4_rush 36 = .ok (.iload_n 2, 1) := by decide +kernel
theorem dX4_rush_37 : decode cX4_rush 37 = .ok (.invokevirtual 159, 3) := by decide +kernel
theorem dX4_rush_40 : decode cX4_rush 40 = .ok (.aload_n 0, 1) := by decide +kernel
theorem dX4_rush_41 : decode cX4_rush 41 = .ok (.getfield 46, 3) := by decide +kernel
theorem dX4_rush_44 : decode cX4_rush 44 = .ok (.aload_n 0, 1) := by decide +kernel
theorem dX4_rush_45 : decode cX4_rush 45 = .ok (.getfield 10, 3) := by decide +kernel
theorem dX4_rush_48 : decode cX4_rush 48 = .ok (.iload_n 2, 1) := by decide +kernel
theorem dX4_rush_49 : decode cX4_rush 49 = .ok (.invokevirtual 162, 3) := by decide +kernel
theorem dX4_rush_52 : decode cX4_rush 52 = .ok (.iinc 2 1, 3) := by decide +kernel
theorem dX4_rush_55 : decode cX4_rush 55 = .ok (.goto (-28), 3) := by decide +kernel
theorem dX4_rush_58 : decode cX4_rush 58 = .ok (.aload_n 0, 1) := by decide +kernel
theorem dX4_rush_59 : decode cX4_rush 59 = .ok (.getfield 46, 3) := by decide +kernel
theorem dX4_rush_62 : decode cX4_rush 62 = .ok (.iload_n 1, 1) := by decide +kernel
theorem dX4_rush_63 : decode cX4_rush 63 = .ok (.invokevirtual 159, 3) := by decide +kernel
theorem dX4_rush_66 : decode cX4_rush 66 = .ok (.aload_n 0, 1) := by decide +kernel
theorem dX4_rush_67 : decode cX4_rush 67 = .ok (.getfield 46, 3) := by decide +kernel
theorem dX4_rush_70 : decode cX4_rush 70 = .ok (.aload_n 0, 1) := by decide +kernel
theorem dX4_rush_71 : decode cX4_rush 71 = .ok (.getfield 10, 3) := by decide +kernel
theorem dX4_rush_74 : decode cX4_rush 74 = .ok (.getfield 65, 3) := by decide +kernel
theorem dX4_rush_77 : decode cX4_rush 77 = .ok (.invokevirtual 166, 3) := by decide +kernel
theorem dX4_rush_80 : decode cX4_rush 80 = .ok (.ireturn, 1) := by decide +kernel
theorem dX4_rushed_0 : decode cX4_rushed 0 = .ok (.aload_n 0, 1) := by decide +kernel
theorem dX4_rushed_1 : decode cX4_rushed 1 = .ok (.getfield 10, 3) := by decide +kernel
theorem dX4_rushed_4 : decode cX4_rushed 4 = .ok (.invokevirtual 169, 3) := by decide +kernel
theorem dX4_rushed_7 : decode cX4_rushed 7 = .ok (.istore_n 1, 1) := by decide +kernel
theorem dX4_rushed_8 : decode cX4_rushed 8 = .ok (.aload_n 0, 1) := by decide +kernel
theorem dX4_rushed_9 : decode cX4_rushed 9 = .ok (.getfield 46, 3) := by decide +kernel
theorem dX4_rushed_12 : decode cX4_rushed 12 = .ok (.aload_n 0, 1) := by decide +kernel
theorem dX4_rushed_13 : decode cX4_rushed 13 = .ok (.getfield 10, 3) := by decide +kernel
theorem dX4_rushed_16 : decode cX4_rushed 16 = .ok (.invokevirtual 158, 3) := by decide +kernel
theorem dX4_rushed_19 : decode cX4_rushed 19 = .ok (.iconst 0, 1) := by decide +kernel
theorem dX4_rushed_20 : decode cX4_rushed 20 = .ok (.istore_n 2, 1) := by decide +kernel
theorem dX4_rushed_21 : decode cX4_rushed 21 = .ok (.iload_n 2, 1) := by decide +kernel
theorem dX4_rushed_22 : decode cX4_rushed 22 = .ok (.sipush 200, 3) := by decide +kernel
theorem dX4_rushed_25 : decode cX4_rushed 25 = .ok (.if_icmp .gt 49, 3) := by decide +kernel
theorem dX4_rushed_28 : decode cX4_rushed 28 = .ok (.aload_n 0, 1) := by decide +kernel
theorem dX4_rushed_29 : decode cX4_rushed 29 = .ok (.getfield 46, 3) := by decide +kernel
theorem dX4_rushed_32 : decode cX4_rushed 32 = .ok (.iload_n 2, 1) := by decide +kernel
theorem dX4_rushed_33 : decode cX4_rushed 33 = .ok (.invokevirtual 159, 3) := by decide +kernel
theorem dX4_rushed_36 : decode cX4_rushed 36 = .ok (.aload_n 0, 1) := by decide +kernel
theorem dX4_rushed_37 : decode cX4_rushed 37 = .ok (.getfield 46, 3) := by decide +kernel
theorem dX4_rushed_40 : decode cX4_rushed 40 = .ok (.aload_n 0, 1) := by decide +kernel
theorem dX4_rushed_41 : decode cX4_rushed 41 = .ok (.getfield 10, 3) := by decide +kernel
theorem dX4_rushed_44 : decode cX4_rushed 44 = .ok (.getfield 65, 3) := by decide +kernel
theorem dX4_rushed_47 : decode cX4_rushed 47 = .ok (.invokevirtual 166, 3) := by decide +kernel
theorem dX4_rushed_50 : decode cX4_rushed 50 = .ok (.iload_n 1, 1) := by decide +kernel
theorem dX4_rushed_51 : decode cX4_rushed 51 = .ok (.if_icmp .ne 5, 3) := by decide +kernel
theorem dX4_rushed_54 : decode cX4_rushed 54 = .ok (.iload_n 2, 1) := by decide +kernel
theorem dX4_rushed_55 : decode cX4_rushed 55 = .ok (.ireturn, 1) := by decide +kernel
theorem dX4_rushed_56 : decode cX4_rushed 56 = .ok (.aload_n 0, 1) := by decide +kernel
theorem dX4_rushed_57 : decode cX4_rushed 57 = .ok (.getfield 46, 3) := by decide +kernel
theorem dX4_rushed_60 : decode cX4_rushed 60 = .ok (.aload_n 0, 1) := by decide +kernel
theorem dX4_rushed_61 : decode cX4_rushed 61 = .ok (.getfield 10, 3) := by decide +kernel
theorem dX4_rushed_64 : decode cX4_rushed 64 = .ok (.iload_n 2, 1) := by decide +kernel
theorem dX4_rushed_65 : decode cX4_rushed 65 = .ok (.invokevirtual 162, 3) := by decide +kernel
theorem dX4_rushed_68 : decode cX4_rushed 68 = .ok (.iinc 2 1, 3) := by decide +kernel
theorem dX4_rushed_71 : decode cX4_rushed 71 = .ok (.goto (-50), 3) := by decide +kernel
theorem dX4_rushed_74 : decode cX4_rushed 74 = .ok (.bipush (-6), 2) := by decide +kernel
theorem dX4_rushed_76 : decode cX4_rushed 76 = .ok (.ireturn, 1) := by decide +kernel
theorem dX4_image_0 : decode cX4_image 0 = .ok (.iload_n 1, 1) := by decide +kernel
theorem dX4_image_1 : decode cX4_image 1 = .ok (.iconst 0, 1) := by decide +kernel
theorem dX4_image_2 : decode cX4_image 2 = .ok (.iconst 1, 1) := by decide +kernel
theorem dX4_image_3 : decode cX4_image 3 = .ok (.invokestatic 54, 3) := by decide +kernel
theorem dX4_image_6 : decode cX4_image 6 = .ok (.ifCond .ne 6, 3) := by decide +kernel
theorem dX4_image_9 : decode cX4_image 9 = .ok (.bipush (-2), 2) := by decide +kernel
theorem dX4_image_11 : decode cX4_image 11 = .ok (.ireturn, 1) := by decide +kernel
theorem dX4_image_12 : decode cX4_image 12 = .ok (.aload_n 0, 1) := by decide +kernel
theorem dX4_image_13 : decode cX4_image 13 = .ok (.iload_n 1, 1) := by decide +kernel
theorem dX4_image_14 : decode cX4_image 14 = .ok (.invokevirtual 172, 3) := by decide +kernel
theorem dX4_image_17 : decode cX4_image 17 = .ok (.aload_n 0, 1) := by decide +kernel
theorem dX4_image_18 : decode cX4_image 18 = .ok (.getfield 10, 3) := by decide +kernel
theorem dX4_image_21 : decode cX4_image 21 = .ok (.invokevirtual 176, 3) := by decide +kernel
theorem dX4_image_24 : decode cX4_image 24 = .ok (.aload_n 0, 1) := by decide +kernel
theorem dX4_image_25 : decode cX4_image 25 = .ok (.dup, 1) := by decide +kernel
theorem dX4_image_26 : decode cX4_image 26 = .ok (.getfield 22, 3) := by decide +kernel
theorem dX4_image_29 : decode cX4_image 29 = .ok (.iconst 1, 1) := by decide +kernel
theorem dX4_image_30 : decode cX4_image 30 = .ok (.iload_n 1, 1) := by decide +kernel
theorem dX4_image_31 : decode cX4_image 31 = .ok (.ishl, 1) := by decide +kernel
theorem dX4_image_32 : decode cX4_image 32 = .ok (.ior, 1) := by decide +kernel
theorem dX4_image_33 : decode cX4_image 33 = .ok (.putfield 22, 3) := by decide +kernel
theorem dX4_image_36 : decode cX4_image 36 = .ok (.iconst 1, 1) := by decide +kernel
theorem dX4_image_37 : decode cX4_image 37 = .ok (.ireturn, 1) := by decide +kernel
theorem dX4_restore_0 : decode cX4_restore 0 = .ok (.iload_n 1, 1) := by decide +kernel
theorem dX4_restore_1 : decode cX4_restore 1 = .ok (.iconst 0, 1) := by decide +kernel
theorem dX4_restore_2 : decode cX4_restore 2 = .ok (.iconst 1, 1) := by decide +kernel
theorem dX4_restore_3 : decode cX4_restore 3 = .ok (.invokestatic 54, 3) := by decide +kernel
theorem dX4_restore_6 : decode cX4_restore 6 = .ok (.ifCond .ne 6, 3) := by decide +kernel
theorem dX4_restore_9 : decode cX4_restore 9 = .ok (.bipush (-2), 2) := by decide +kernel
theorem dX4_restore_11 : decode cX4_restore 11 = .ok (.ireturn, 1) := by decide +kernel
theorem dX4_restore_12 : decode cX4_restore 12 = .ok (.aload_n 0, 1) := by decide +kernel
theorem dX4_restore_13 : decode cX4_restore 13 = .ok (.getfield 22, 3) := by decide +kernel
theorem dX4_restore_16 : decode cX4_restore 16 = .ok (.iload_n 1, 1) := by decide +kernel
theorem dX4_restore_17 : decode cX4_restore 17 = .ok (.invokestatic 108, 3) := by decide +kernel
theorem dX4_restore_20 : decode cX4_restore 20 = .ok (.ifCond .ne 6, 3) := by decide +kernel
theorem dX4_restore_23 : decode cX4_restore 23 = .ok (.bipush (-3), 2) := by decide +kernel
theorem dX4_restore_25 : decode cX4_restore 25 = .ok (.ireturn, 1) := by decide +kernel
theorem dX4_restore_26 : decode cX4_restore 26 = .ok (.aload_n 0, 1) := by decide +kernel
theorem dX4_restore_27 : decode cX4_restore 27 = .ok (.getfield 10, 3) := by decide +kernel
theorem dX4_restore_30 : decode cX4_restore 30 = .ok (.aload_n 0, 1) := by decide +kernel
theorem dX4_restore_31 : decode cX4_restore 31 = .ok (.iload_n 1, 1) := by decide +kernel
theorem dX4_restore_32 : decode cX4_restore 32 = .ok (.invokevirtual 172, 3) := by decide +kernel
theorem dX4_restore_35 : decode cX4_restore 35 = .ok (.invokevirtual 176, 3) := by decide +kernel
theorem dX4_restore_38 : decode cX4_restore 38 = .ok (.iconst 1, 1) := by decide +kernel
theorem dX4_restore_39 : decode cX4_restore 39 = .ok (.ireturn, 1) := by decide +kernel
theorem dX4_count_0 : decode cX4_count 0 = .ok (.iload_n 1, 1) := by decide +kernel
theorem dX4_count_1 : decode cX4_count 1 = .ok (.tableswitch 84 0 5 #[39, 47, 55, 63, 71, 79], 39) := by decide +kernel
theorem dX4_count_40 : decode cX4_count 40 = .ok (.aload_n 0, 1) := by decide +kernel
theorem dX4_count_41 : decode cX4_count 41 = .ok (.getfield 10, 3) := by decide +kernel
theorem dX4_count_44 : decode cX4_count 44 = .ok (.invokevirtual 169, 3) := by decide +kernel
theorem dX4_count_47 : decode cX4_count 47 = .ok (.ireturn, 1) := by decide +kernel
theorem dX4_count_48 : decode cX4_count 48 = .ok (.aload_n 0, 1) := by decide +kernel
theorem dX4_count_49 : decode cX4_count 49 = .ok (.getfield 10, 3) := by decide +kernel
theorem dX4_count_52 : decode cX4_count 52 = .ok (.getfield 74, 3) := by decide +kernel
theorem dX4_count_55 : decode cX4_count 55 = .ok (.ireturn, 1) := by decide +kernel
theorem dX4_count_56 : decode cX4_count 56 = .ok (.aload_n 0, 1) := by decide +kernel
theorem dX4_count_57 : decode cX4_count 57 = .ok (.getfield 29, 3) := by decide +kernel
theorem dX4_count_60 : decode cX4_count 60 = .ok (.getfield 93, 3) := by decide +kernel
theorem dX4_count_63 : decode cX4_count 63 = .ok (.ireturn, 1) := by decide +kernel
theorem dX4_count_64 : decode cX4_count 64 = .ok (.aload_n 0, 1) := by decide +kernel
theorem dX4_count_65 : decode cX4_count 65 = .ok (.getfield 10, 3) := by decide +kernel
theorem dX4_count_68 : decode cX4_count 68 = .ok (.invokevirtual 178, 3) := by decide +kernel
theorem dX4_count_71 : decode cX4_count 71 = .ok (.ireturn, 1) := by decide +kernel
theorem dX4_count_72 : decode cX4_count 72 = .ok (.aload_n 0, 1) := by decide +kernel
theorem dX4_count_73 : decode cX4_count 73 = .ok (.getfield 10, 3) := by decide +kernel
theorem dX4_count_76 : decode cX4_count 76 = .ok (.getfield 65, 3) := by decide +kernel
theorem dX4_count_79 : decode cX4_count 79 = .ok (.ireturn, 1) := by decide +kernel
theorem dX4_count_80 : decode cX4_count 80 = .ok (.aload_n 0, 1) := by decide +kernel
theorem dX4_count_81 : decode cX4_count 81 = .ok (.getfield 22, 3) := by decide +kernel
theorem dX4_count_84 : decode cX4_count 84 = .ok (.ireturn, 1) := by decide +kernel
theorem dX4_count_85 : decode cX4_count 85 = .ok (.bipush (-2), 2) := by decide +kernel
theorem dX4_count_87 : decode cX4_count 87 = .ok (.ireturn, 1) := by decide +kernel
theorem dX4_isWithin_0 : decode cX4_isWithin 0 = .ok (.iload_n 0, 1) := by decide +kernel
theorem dX4_isWithin_1 : decode cX4_isWithin 1 = .ok (.iload_n 1, 1) := by decide +kernel
theorem dX4_isWithin_2 : decode cX4_isWithin 2 = .ok (.if_icmp .lt 12, 3) := by decide +kernel
theorem dX4_isWithin_5 : decode cX4_isWithin 5 = .ok (.iload_n 0, 1) := by decide +kernel
theorem dX4_isWithin_6 : decode cX4_isWithin 6 = .ok (.iload_n 2, 1) := by decide +kernel
theorem dX4_isWithin_7 : decode cX4_isWithin 7 = .ok (.if_icmp .gt 7, 3) := by decide +kernel
theorem dX4_isWithin_10 : decode cX4_isWithin 10 = .ok (.iconst 1, 1) := by decide +kernel
theorem dX4_isWithin_11 : decode cX4_isWithin 11 = .ok (.goto 4, 3) := by decide +kernel
theorem dX4_isWithin_14 : decode cX4_isWithin 14 = .ok (.iconst 0, 1) := by decide +kernel
theorem dX4_isWithin_15 : decode cX4_isWithin 15 = .ok (.ireturn, 1) := by decide +kernel
theorem dX4_isRoom_0 : decode cX4_isRoom 0 = .ok (.iload_n 0, 1) := by decide +kernel
theorem dX4_isRoom_1 : decode cX4_isRoom 1 = .ok (.iconst 0, 1) := by decide +kernel
theorem dX4_isRoom_2 : decode cX4_isRoom 2 = .ok (.iconst 5, 1) := by decide +kernel
theorem dX4_isRoom_3 : decode cX4_isRoom 3 = .ok (.invokestatic 54, 3) := by decide +kernel
theorem dX4_isRoom_6 : decode cX4_isRoom 6 = .ok (.ireturn, 1) := by decide +kernel
theorem dX4_isIn_0 : decode cX4_isIn 0 = .ok (.iload_n 0, 1) := by decide +kernel
theorem dX4_isIn_1 : decode cX4_isIn 1 = .ok (.iload_n 1, 1) := by decide +kernel
theorem dX4_isIn_2 : decode cX4_isIn 2 = .ok (.ishr, 1) := by decide +kernel
theorem dX4_isIn_3 : decode cX4_isIn 3 = .ok (.iconst 1, 1) := by decide +kernel
theorem dX4_isIn_4 : decode cX4_isIn 4 = .ok (.iand, 1) := by decide +kernel
theorem dX4_isIn_5 : decode cX4_isIn 5 = .ok (.iconst 1, 1) := by decide +kernel
theorem dX4_isIn_6 : decode cX4_isIn 6 = .ok (.if_icmp .ne 7, 3) := by decide +kernel
theorem dX4_isIn_9 : decode cX4_isIn 9 = .ok (.iconst 1, 1) := by decide +kernel
theorem dX4_isIn_10 : decode cX4_isIn 10 = .ok (.goto 4, 3) := by decide +kernel
theorem dX4_isIn_13 : decode cX4_isIn 13 = .ok (.iconst 0, 1) := by decide +kernel
theorem dX4_isIn_14 : decode cX4_isIn 14 = .ok (.ireturn, 1) := by decide +kernel
theorem dX4_isPassage_0 : decode cX4_isPassage 0 = .ok (.iload_n 1, 1) := by decide +kernel
theorem dX4_isPassage_1 : decode cX4_isPassage 1 = .ok (.iconst 0, 1) := by decide +kernel
theorem dX4_isPassage_2 : decode cX4_isPassage 2 = .ok (.aload_n 0, 1) := by decide +kernel
theorem dX4_isPassage_3 : decode cX4_isPassage 3 = .ok (.getfield 10, 3) := by decide +kernel
theorem dX4_isPassage_6 : decode cX4_isPassage 6 = .ok (.getfield 74, 3) := by decide +kernel
theorem dX4_isPassage_9 : decode cX4_isPassage 9 = .ok (.iconst 1, 1) := by decide +kernel
theorem dX4_isPassage_10 : decode cX4_isPassage 10 = .ok (.isub, 1) := by decide +kernel
theorem dX4_isPassage_11 : decode cX4_isPassage 11 = .ok (.invokestatic 54, 3) := by decide +kernel
theorem dX4_isPassage_14 : decode cX4_isPassage 14 = .ok (.ireturn, 1) := by decide +kernel
theorem dX4_imageAt_0 : decode cX4_imageAt 0 = .ok (.iload_n 1, 1) := by decide +kernel
theorem dX4_imageAt_1 : decode cX4_imageAt 1 = .ok (.ifCond .ne 10, 3) := by decide +kernel
theorem dX4_imageAt_4 : decode cX4_imageAt 4 = .ok (.aload_n 0, 1) := by decide +kernel
theorem dX4_imageAt_5 : decode cX4_imageAt 5 = .ok (.getfield 16, 3) := by decide +kernel
theorem dX4_imageAt_8 : decode cX4_imageAt 8 = .ok (.goto 7, 3) := by decide +kernel
theorem dX4_imageAt_11 : decode cX4_imageAt 11 = .ok (.aload_n 0, 1) := by decide +kernel
theorem dX4_imageAt_12 : decode cX4_imageAt 12 = .ok (.getfield 19, 3) := by decide +kernel
theorem dX4_imageAt_15 : decode cX4_imageAt 15 = .ok (.areturn, 1) := by decide +kernel
theorem dX4_leadAll_0 : decode cX4_leadAll 0 = .ok (.aload_n 0, 1) := by decide +kernel
theorem dX4_leadAll_1 : decode cX4_leadAll 1 = .ok (.getfield 36, 3) := by decide +kernel
theorem dX4_leadAll_4 : decode cX4_leadAll 4 = .ok (.aload_n 0, 1) := by decide +kernel
theorem dX4_leadAll_5 : decode cX4_leadAll 5 = .ok (.getfield 10, 3) := by decide +kernel
theorem dX4_leadAll_8 : decode cX4_leadAll 8 = .ok (.invokevirtual 132, 3) := by decide +kernel
theorem dX4_leadAll_11 : decode cX4_leadAll 11 = .ok (.iconst 0, 1) := by decide +kernel
theorem dX4_leadAll_12 : decode cX4_leadAll 12 = .ok (.istore_n 1, 1) := by decide +kernel
theorem dX4_leadAll_13 : decode cX4_leadAll 13 = .ok (.iload_n 1, 1) := by decide +kernel
theorem dX4_leadAll_14 : decode cX4_leadAll 14 = .ok (.bipush 60, 2) := by decide +kernel
theorem dX4_leadAll_16 : decode cX4_leadAll 16 = .ok (.if_icmp .gt 22, 3) := by decide +kernel
theorem dX4_leadAll_19 : decode cX4_leadAll 19 = .ok (.aload_n 0, 1) := by decide +kernel
theorem dX4_leadAll_20 : decode cX4_leadAll 20 = .ok (.getfield 36, 3) := by decide +kernel
theorem dX4_leadAll_23 : decode cX4_leadAll 23 = .ok (.iload_n 1, 1) := by decide +kernel
theorem dX4_leadAll_24 : decode cX4_leadAll 24 = .ok (.invokevirtual 149, 3) := by decide +kernel
theorem dX4_leadAll_27 : decode cX4_leadAll 27 = .ok (.ifCond .eq 5, 3) := by decide +kernel
theorem dX4_leadAll_30 : decode cX4_leadAll 30 = .ok (.iload_n 1, 1) := by decide +kernel
theorem dX4_leadAll_31 : decode cX4_leadAll 31 = .ok (.ireturn, 1) := by decide +kernel
theorem dX4_leadAll_32 : decode cX4_leadAll 32 = .ok (.iinc 1 1, 3) := by decide +kernel
theorem dX4_leadAll_35 : decode cX4_leadAll 35 = .ok (.goto (-22), 3) := by decide +kernel
theorem dX4_leadAll_38 : decode cX4_leadAll 38 = .ok (.bipush (-6), 2) := by decide +kernel
theorem dX4_leadAll_40 : decode cX4_leadAll 40 = .ok (.ireturn, 1) := by decide +kernel
theorem dX4_canDoShut_0 : decode cX4_canDoShut 0 = .ok (.aload_n 0, 1) := by decide +kernel
theorem dX4_canDoShut_1 : decode cX4_canDoShut 1 = .ok (.getfield 40, 3) := by decide +kernel
theorem dX4_canDoShut_4 : decode cX4_canDoShut 4 = .ok (.aload_n 0, 1) := by decide +kernel
theorem dX4_canDoShut_5 : decode cX4_canDoShut 5 = .ok (.getfield 10, 3) := by decide +kernel
theorem dX4_canDoShut_8 : decode cX4_canDoShut 8 = .ok (.invokevirtual 132, 3) := by decide +kernel
theorem dX4_canDoShut_11 : decode cX4_canDoShut 11 = .ok (.aload_n 0, 1) := by decide +kernel
theorem dX4_canDoShut_12 : decode cX4_canDoShut 12 = .ok (.getfield 40, 3) := by decide +kernel
theorem dX4_canDoShut_15 : decode cX4_canDoShut 15 = .ok (.iload_n 1, 1) := by decide +kernel
theorem dX4_canDoShut_16 : decode cX4_canDoShut 16 = .ok (.iload_n 2, 1) := by decide +kernel
theorem dX4_canDoShut_17 : decode cX4_canDoShut 17 = .ok (.invokevirtual 181, 3) := by decide +kernel
theorem dX4_canDoShut_20 : decode cX4_canDoShut 20 = .ok (.aload_n 0, 1) := by decide +kernel
theorem dX4_canDoShut_21 : decode cX4_canDoShut 21 = .ok (.getfield 40, 3) := by decide +kernel
theorem dX4_canDoShut_24 : decode cX4_canDoShut 24 = .ok (.iload_n 3, 1) := by decide +kernel
theorem dX4_canDoShut_25 : decode cX4_canDoShut 25 = .ok (.invokevirtual 149, 3) := by decide +kernel
theorem dX4_canDoShut_28 : decode cX4_canDoShut 28 = .ok (.ireturn, 1) := by decide +kernel
theorem dX4_bitsOf_0 : decode cX4_bitsOf 0 = .ok (.fload_n 0, 1) := by decide +kernel
theorem dX4_bitsOf_1 : decode cX4_bitsOf 1 = .ok (.fconst 0, 1) := by decide +kernel
theorem dX4_bitsOf_2 : decode cX4_bitsOf 2 = .ok (.fcmp .l, 1) := by decide +kernel
theorem dX4_bitsOf_3 : decode cX4_bitsOf 3 = .ok (.ifCond .gt 5, 3) := by decide +kernel
theorem dX4_bitsOf_6 : decode cX4_bitsOf 6 = .ok (.iconst 0, 1) := by decide +kernel
theorem dX4_bitsOf_7 : decode cX4_bitsOf 7 = .ok (.ireturn, 1) := by decide +kernel
theorem dX4_bitsOf_8 : decode cX4_bitsOf 8 = .ok (.bipush 127, 2) := by decide +kernel
theorem dX4_bitsOf_10 : decode cX4_bitsOf 10 = .ok (.istore_n 1, 1) := by decide +kernel
theorem dX4_bitsOf_11 : decode cX4_bitsOf 11 = .ok (.fload_n 0, 1) := by decide +kernel
theorem dX4_bitsOf_12 : decode cX4_bitsOf 12 = .ok (.fstore_n 2, 1) := by decide +kernel
theorem dX4_bitsOf_13 : decode cX4_bitsOf 13 = .ok (.iconst 0, 1) := by decide +kernel
theorem dX4_bitsOf_14 : decode cX4_bitsOf 14 = .ok (.istore_n 3, 1) := by decide +kernel
theorem dX4_bitsOf_15 : decode cX4_bitsOf 15 = .ok (.iload_n 3, 1) := by decide +kernel
theorem dX4_bitsOf_16 : decode cX4_bitsOf 16 = .ok (.sipush 128, 3) := by decide +kernel
theorem dX4_bitsOf_19 : decode cX4_bitsOf 19 = .ok (.if_icmp .ge 23, 3) := by decide +kernel
theorem dX4_bitsOf_22 : decode cX4_bitsOf 22 = .ok (.fload_n 2, 1) := by decide +kernel
theorem dX4_bitsOf_23 : decode cX4_bitsOf 23 = .ok (.fconst 2, 1) := by decide +kernel
theorem dX4_bitsOf_24 : decode cX4_bitsOf 24 = .ok (.fcmp .l, 1) := by decide +kernel
theorem dX4_bitsOf_25 : decode cX4_bitsOf 25 = .ok (.ifCond .lt 17, 3) := by decide +kernel
theorem dX4_bitsOf_28 : decode cX4_bitsOf 28 = .ok (.fload_n 2, 1) := by decide +kernel
theorem dX4_bitsOf_29 : decode cX4_bitsOf 29 = .ok (.ldc 184, 2) := by decide +kernel
theorem dX4_bitsOf_31 : decode cX4_bitsOf 31 = .ok (.fmul, 1) := by decide +kernel
theorem dX4_bitsOf_32 : decode cX4_bitsOf 32 = .ok (.fstore_n 2, 1) := by decide +kernel
theorem dX4_bitsOf_33 : decode cX4_bitsOf 33 = .ok (.iinc 1 1, 3) := by decide +kernel
theorem dX4_bitsOf_36 : decode cX4_bitsOf 36 = .ok (.iinc 3 1, 3) := by decide +kernel
theorem dX4_bitsOf_39 : decode cX4_bitsOf 39 = .ok (.goto (-24), 3) := by decide +kernel
theorem dX4_bitsOf_42 : decode cX4_bitsOf 42 = .ok (.iconst 0, 1) := by decide +kernel
theorem dX4_bitsOf_43 : decode cX4_bitsOf 43 = .ok (.istore_n 3, 1) := by decide +kernel
theorem dX4_bitsOf_44 : decode cX4_bitsOf 44 = .ok (.iload_n 3, 1) := by decide +kernel
theorem dX4_bitsOf_45 : decode cX4_bitsOf 45 = .ok (.bipush 126, 2) := by decide +kernel
theorem dX4_bitsOf_47 : decode cX4_bitsOf 47 = .ok (.if_icmp .ge 22, 3) := by decide +kernel
theorem dX4_bitsOf_50 : decode cX4_bitsOf 50 = .ok (.fload_n 2, 1) := by decide +kernel
theorem dX4_bitsOf_51 : decode cX4_bitsOf 51 = .ok (.fconst 1, 1) := by decide +kernel
theorem dX4_bitsOf_52 : decode cX4_bitsOf 52 = .ok (.fcmp .g, 1) := by decide +kernel
theorem dX4_bitsOf_53 : decode cX4_bitsOf 53 = .ok (.ifCond .ge 16, 3) := by decide +kernel
theorem dX4_bitsOf_56 : decode cX4_bitsOf 56 = .ok (.fload_n 2, 1) := by decide +kernel
theorem dX4_bitsOf_57 : decode cX4_bitsOf 57 = .ok (.fconst 2, 1) := by decide +kernel
theorem dX4_bitsOf_58 : decode cX4_bitsOf 58 = .ok (.fmul, 1) := by decide +kernel
theorem dX4_bitsOf_59 : decode cX4_bitsOf 59 = .ok (.fstore_n 2, 1) := by decide +kernel
theorem dX4_bitsOf_60 : decode cX4_bitsOf 60 = .ok (.iinc 1 (-1), 3) := by decide +kernel
theorem dX4_bitsOf_63 : decode cX4_bitsOf 63 = .ok (.iinc 3 1, 3) := by decide +kernel
theorem dX4_bitsOf_66 : decode cX4_bitsOf 66 = .ok (.goto (-22), 3) := by decide +kernel
theorem dX4_bitsOf_69 : decode cX4_bitsOf 69 = .ok (.fload_n 2, 1) := by decide +kernel
theorem dX4_bitsOf_70 : decode cX4_bitsOf 70 = .ok (.ldc 185, 2) := by decide +kernel
theorem dX4_bitsOf_72 : decode cX4_bitsOf 72 = .ok (.fmul, 1) := by decide +kernel
theorem dX4_bitsOf_73 : decode cX4_bitsOf 73 = .ok (.f2i, 1) := by decide +kernel
theorem dX4_bitsOf_74 : decode cX4_bitsOf 74 = .ok (.ldc 186, 2) := by decide +kernel
theorem dX4_bitsOf_76 : decode cX4_bitsOf 76 = .ok (.isub, 1) := by decide +kernel
theorem dX4_bitsOf_77 : decode cX4_bitsOf 77 = .ok (.istore_n 3, 1) := by decide +kernel
theorem dX4_bitsOf_78 : decode cX4_bitsOf 78 = .ok (.iload_n 1, 1) := by decide +kernel
theorem dX4_bitsOf_79 : decode cX4_bitsOf 79 = .ok (.bipush 23, 2) := by decide +kernel
theorem dX4_bitsOf_81 : decode cX4_bitsOf 81 = .ok (.ishl, 1) := by decide +kernel
theorem dX4_bitsOf_82 : decode cX4_bitsOf 82 = .ok (.iload_n 3, 1) := by decide +kernel
theorem dX4_bitsOf_83 : decode cX4_bitsOf 83 = .ok (.iadd, 1) := by decide +kernel
theorem dX4_bitsOf_84 : decode cX4_bitsOf 84 = .ok (.ireturn, 1) := by decide +kernel
theorem dJxf58ca_isNaN_12338_0 : decode cJxf58ca_isNaN_12338 0 = .ok (.fload_n 0, 1) := by decide +kernel
theorem dJxf58ca_isNaN_12338_1 : decode cJxf58ca_isNaN_12338 1 = .ok (.fload_n 0, 1) := by decide +kernel
theorem dJxf58ca_isNaN_12338_2 : decode cJxf58ca_isNaN_12338 2 = .ok (.fcmp .l, 1) := by decide +kernel
theorem dJxf58ca_isNaN_12338_3 : decode cJxf58ca_isNaN_12338 3 = .ok (.ifCond .eq 7, 3) := by decide +kernel
theorem dJxf58ca_isNaN_12338_6 : decode cJxf58ca_isNaN_12338 6 = .ok (.iconst 1, 1) := by decide +kernel
theorem dJxf58ca_isNaN_12338_7 : decode cJxf58ca_isNaN_12338 7 = .ok (.goto 4, 3) := by decide +kernel
theorem dJxf58ca_isNaN_12338_10 : decode cJxf58ca_isNaN_12338 10 = .ok (.iconst 0, 1) := by decide +kernel
theorem dJxf58ca_isNaN_12338_11 : decode cJxf58ca_isNaN_12338 11 = .ok (.ireturn, 1) := by decide +kernel
theorem dJxf58ca_floatToIntBits_5c35a_0 : decode cJxf58ca_floatToIntBits_5c35a 0 = .ok (.fload_n 0, 1) := by decide +kernel
theorem dJxf58ca_floatToIntBits_5c35a_1 : decode cJxf58ca_floatToIntBits_5c35a 1 = .ok (.invokestatic 59, 3) := by decide +kernel
theorem dJxf58ca_floatToIntBits_5c35a_4 : decode cJxf58ca_floatToIntBits_5c35a 4 = .ok (.ifCond .ne 8, 3) := by decide +kernel
theorem dJxf58ca_floatToIntBits_5c35a_7 : decode cJxf58ca_floatToIntBits_5c35a 7 = .ok (.fload_n 0, 1) := by decide +kernel
theorem dJxf58ca_floatToIntBits_5c35a_8 : decode cJxf58ca_floatToIntBits_5c35a 8 = .ok (.invokestatic 74, 3) := by decide +kernel
theorem dJxf58ca_floatToIntBits_5c35a_11 : decode cJxf58ca_floatToIntBits_5c35a 11 = .ok (.ireturn, 1) := by decide +kernel
theorem dJxf58ca_floatToIntBits_5c35a_12 : decode cJxf58ca_floatToIntBits_5c35a 12 = .ok (.ldc 77, 2) := by decide +kernel
theorem dJxf58ca_floatToIntBits_5c35a_14 : decode cJxf58ca_floatToIntBits_5c35a 14 = .ok (.ireturn, 1) := by decide +kernel
theorem dJ6_bitCount_0f7a4_0 : decode cJ6_bitCount_0f7a4 0 = .ok (.iload_n 0, 1) := by decide +kernel
theorem dJ6_bitCount_0f7a4_1 : decode cJ6_bitCount_0f7a4 1 = .ok (.iload_n 0, 1) := by decide +kernel
theorem dJ6_bitCount_0f7a4_2 : decode cJ6_bitCount_0f7a4 2 = .ok (.iconst 1, 1) := by decide +kernel
theorem dJ6_bitCount_0f7a4_3 : decode cJ6_bitCount_0f7a4 3 = .ok (.iushr, 1) := by decide +kernel
theorem dJ6_bitCount_0f7a4_4 : decode cJ6_bitCount_0f7a4 4 = .ok (.ldc_w 265, 3) := by decide +kernel
theorem dJ6_bitCount_0f7a4_7 : decode cJ6_bitCount_0f7a4 7 = .ok (.iand, 1) := by decide +kernel
theorem dJ6_bitCount_0f7a4_8 : decode cJ6_bitCount_0f7a4 8 = .ok (.isub, 1) := by decide +kernel
theorem dJ6_bitCount_0f7a4_9 : decode cJ6_bitCount_0f7a4 9 = .ok (.istore_n 0, 1) := by decide +kernel
theorem dJ6_bitCount_0f7a4_10 : decode cJ6_bitCount_0f7a4 10 = .ok (.iload_n 0, 1) := by decide +kernel
theorem dJ6_bitCount_0f7a4_11 : decode cJ6_bitCount_0f7a4 11 = .ok (.ldc_w 266, 3) := by decide +kernel
theorem dJ6_bitCount_0f7a4_14 : decode cJ6_bitCount_0f7a4 14 = .ok (.iand, 1) := by decide +kernel
theorem dJ6_bitCount_0f7a4_15 : decode cJ6_bitCount_0f7a4 15 = .ok (.iload_n 0, 1) := by decide +kernel
theorem dJ6_bitCount_0f7a4_16 : decode cJ6_bitCount_0f7a4 16 = .ok (.iconst 2, 1) := by decide +kernel
theorem dJ6_bitCount_0f7a4_17 : decode cJ6_bitCount_0f7a4 17 = .ok (.iushr, 1) := by decide +kernel
theorem dJ6_bitCount_0f7a4_18 : decode cJ6_bitCount_0f7a4 18 = .ok (.ldc_w 266, 3) := by decide +kernel
theorem dJ6_bitCount_0f7a4_21 : decode cJ6_bitCount_0f7a4 21 = .ok (.iand, 1) := by decide +kernel
theorem dJ6_bitCount_0f7a4_22 : decode cJ6_bitCount_0f7a4 22 = .ok (.iadd, 1) := by decide +kernel
theorem dJ6_bitCount_0f7a4_23 : decode cJ6_bitCount_0f7a4 23 = .ok (.istore_n 0, 1) := by decide +kernel
theorem dJ6_bitCount_0f7a4_24 : decode cJ6_bitCount_0f7a4 24 = .ok (.iload_n 0, 1) := by decide +kernel
theorem dJ6_bitCount_0f7a4_25 : decode cJ6_bitCount_0f7a4 25 = .ok (.iload_n 0, 1) := by decide +kernel
theorem dJ6_bitCount_0f7a4_26 : decode cJ6_bitCount_0f7a4 26 = .ok (.iconst 4, 1) := by decide +kernel
theorem dJ6_bitCount_0f7a4_27 : decode cJ6_bitCount_0f7a4 27 = .ok (.iushr, 1) := by decide +kernel
theorem dJ6_bitCount_0f7a4_28 : decode cJ6_bitCount_0f7a4 28 = .ok (.iadd, 1) := by decide +kernel
theorem dJ6_bitCount_0f7a4_29 : decode cJ6_bitCount_0f7a4 29 = .ok (.ldc_w 267, 3) := by decide +kernel
theorem dJ6_bitCount_0f7a4_32 : decode cJ6_bitCount_0f7a4 32 = .ok (.iand, 1) := by decide +kernel
theorem dJ6_bitCount_0f7a4_33 : decode cJ6_bitCount_0f7a4 33 = .ok (.istore_n 0, 1) := by decide +kernel
theorem dJ6_bitCount_0f7a4_34 : decode cJ6_bitCount_0f7a4 34 = .ok (.iload_n 0, 1) := by decide +kernel
theorem dJ6_bitCount_0f7a4_35 : decode cJ6_bitCount_0f7a4 35 = .ok (.iload_n 0, 1) := by decide +kernel
theorem dJ6_bitCount_0f7a4_36 : decode cJ6_bitCount_0f7a4 36 = .ok (.bipush 8, 2) := by decide +kernel
theorem dJ6_bitCount_0f7a4_38 : decode cJ6_bitCount_0f7a4 38 = .ok (.iushr, 1) := by decide +kernel
theorem dJ6_bitCount_0f7a4_39 : decode cJ6_bitCount_0f7a4 39 = .ok (.iadd, 1) := by decide +kernel
theorem dJ6_bitCount_0f7a4_40 : decode cJ6_bitCount_0f7a4 40 = .ok (.istore_n 0, 1) := by decide +kernel
theorem dJ6_bitCount_0f7a4_41 : decode cJ6_bitCount_0f7a4 41 = .ok (.iload_n 0, 1) := by decide +kernel
theorem dJ6_bitCount_0f7a4_42 : decode cJ6_bitCount_0f7a4 42 = .ok (.iload_n 0, 1) := by decide +kernel
theorem dJ6_bitCount_0f7a4_43 : decode cJ6_bitCount_0f7a4 43 = .ok (.bipush 16, 2) := by decide +kernel
theorem dJ6_bitCount_0f7a4_45 : decode cJ6_bitCount_0f7a4 45 = .ok (.iushr, 1) := by decide +kernel
theorem dJ6_bitCount_0f7a4_46 : decode cJ6_bitCount_0f7a4 46 = .ok (.iadd, 1) := by decide +kernel
theorem dJ6_bitCount_0f7a4_47 : decode cJ6_bitCount_0f7a4 47 = .ok (.istore_n 0, 1) := by decide +kernel
theorem dJ6_bitCount_0f7a4_48 : decode cJ6_bitCount_0f7a4 48 = .ok (.iload_n 0, 1) := by decide +kernel
theorem dJ6_bitCount_0f7a4_49 : decode cJ6_bitCount_0f7a4 49 = .ok (.bipush 63, 2) := by decide +kernel
theorem dJ6_bitCount_0f7a4_51 : decode cJ6_bitCount_0f7a4 51 = .ok (.iand, 1) := by decide +kernel
theorem dJ6_bitCount_0f7a4_52 : decode cJ6_bitCount_0f7a4 52 = .ok (.ireturn, 1) := by decide +kernel
theorem dJ7_fill_53178_0 : decode cJ7_fill_53178 0 = .ok (.iconst 0, 1) := by decide +kernel
theorem dJ7_fill_53178_1 : decode cJ7_fill_53178 1 = .ok (.istore_n 2, 1) := by decide +kernel
theorem dJ7_fill_53178_2 : decode cJ7_fill_53178 2 = .ok (.aload_n 0, 1) := by decide +kernel
theorem dJ7_fill_53178_3 : decode cJ7_fill_53178 3 = .ok (.arraylength, 1) := by decide +kernel
theorem dJ7_fill_53178_4 : decode cJ7_fill_53178 4 = .ok (.istore_n 3, 1) := by decide +kernel
theorem dJ7_fill_53178_5 : decode cJ7_fill_53178 5 = .ok (.iload_n 2, 1) := by decide +kernel
theorem dJ7_fill_53178_6 : decode cJ7_fill_53178 6 = .ok (.iload_n 3, 1) := by decide +kernel
theorem dJ7_fill_53178_7 : decode cJ7_fill_53178 7 = .ok (.if_icmp .ge 13, 3) := by decide +kernel
theorem dJ7_fill_53178_10 : decode cJ7_fill_53178 10 = .ok (.aload_n 0, 1) := by decide +kernel
theorem dJ7_fill_53178_11 : decode cJ7_fill_53178 11 = .ok (.iload_n 2, 1) := by decide +kernel
theorem dJ7_fill_53178_12 : decode cJ7_fill_53178 12 = .ok (.iload_n 1, 1) := by decide +kernel
theorem dJ7_fill_53178_13 : decode cJ7_fill_53178 13 = .ok (.iastore, 1) := by decide +kernel
theorem dJ7_fill_53178_14 : decode cJ7_fill_53178 14 = .ok (.iinc 2 1, 3) := by decide +kernel
theorem dJ7_fill_53178_17 : decode cJ7_fill_53178 17 = .ok (.goto (-12), 3) := by decide +kernel
theorem dJ7_fill_53178_20 : decode cJ7_fill_53178 20 = .ok (.return_, 1) := by decide +kernel
theorem dL_law_0 : decode cL_law 0 = .ok (.new 7, 3) := by decide +kernel
theorem dL_law_3 : decode cL_law 3 = .ok (.dup, 1) := by decide +kernel
theorem dL_law_4 : decode cL_law 4 = .ok (.invokespecial 9, 3) := by decide +kernel
theorem dL_law_7 : decode cL_law 7 = .ok (.astore_n 1, 1) := by decide +kernel
theorem dL_law_8 : decode cL_law 8 = .ok (.new 10, 3) := by decide +kernel
theorem dL_law_11 : decode cL_law 11 = .ok (.dup, 1) := by decide +kernel
theorem dL_law_12 : decode cL_law 12 = .ok (.invokespecial 12, 3) := by decide +kernel
theorem dL_law_15 : decode cL_law 15 = .ok (.astore_n 2, 1) := by decide +kernel
theorem dL_law_16 : decode cL_law 16 = .ok (.iconst 0, 1) := by decide +kernel
theorem dL_law_17 : decode cL_law 17 = .ok (.istore_n 3, 1) := by decide +kernel
theorem dL_law_18 : decode cL_law 18 = .ok (.iload_n 3, 1) := by decide +kernel
theorem dL_law_19 : decode cL_law 19 = .ok (.aload_n 0, 1) := by decide +kernel
theorem dL_law_20 : decode cL_law 20 = .ok (.arraylength, 1) := by decide +kernel
theorem dL_law_21 : decode cL_law 21 = .ok (.iconst 5, 1) := by decide +kernel
theorem dL_law_22 : decode cL_law 22 = .ok (.isub, 1) := by decide +kernel
theorem dL_law_23 : decode cL_law 23 = .ok (.if_icmp .gt 628, 3) := by decide +kernel
theorem dL_law_26 : decode cL_law 26 = .ok (.aload_n 0, 1) := by decide +kernel
theorem dL_law_27 : decode cL_law 27 = .ok (.iload_n 3, 1) := by decide +kernel
theorem dL_law_28 : decode cL_law 28 = .ok (.iaload, 1) := by decide +kernel
theorem dL_law_29 : decode cL_law 29 = .ok (.bipush 31, 2) := by decide +kernel
theorem dL_law_31 : decode cL_law 31 = .ok (.iand, 1) := by decide +kernel
theorem dL_law_32 : decode cL_law 32 = .ok (.tableswitch 613 0 20 #[100, 143, 176, 229, 262, 295, 318, 331, 344, 357, 390, 423, 446, 459, 472, 485, 508, 531, 544, 567, 590], 100) := by decide +kernel
theorem dL_law_132 : decode cL_law 132 = .ok (.aload_n 1, 1) := by decide +kernel
theorem dL_law_133 : decode cL_law 133 = .ok (.aload_n 0, 1) := by decide +kernel
theorem dL_law_134 : decode cL_law 134 = .ok (.iload_n 3, 1) := by decide +kernel
theorem dL_law_135 : decode cL_law 135 = .ok (.iconst 1, 1) := by decide +kernel
theorem dL_law_136 : decode cL_law 136 = .ok (.iadd, 1) := by decide +kernel
theorem dL_law_137 : decode cL_law 137 = .ok (.iaload, 1) := by decide +kernel
theorem dL_law_138 : decode cL_law 138 = .ok (.aload_n 0, 1) := by decide +kernel
theorem dL_law_139 : decode cL_law 139 = .ok (.iload_n 3, 1) := by decide +kernel
theorem dL_law_140 : decode cL_law 140 = .ok (.iconst 2, 1) := by decide +kernel
theorem dL_law_141 : decode cL_law 141 = .ok (.iadd, 1) := by decide +kernel
theorem dL_law_142 : decode cL_law 142 = .ok (.iaload, 1) := by decide +kernel
theorem dL_law_143 : decode cL_law 143 = .ok (.aload_n 0, 1) := by decide +kernel
theorem dL_law_144 : decode cL_law 144 = .ok (.iload_n 3, 1) := by decide +kernel
theorem dL_law_145 : decode cL_law 145 = .ok (.iconst 3, 1) := by decide +kernel
theorem dL_law_146 : decode cL_law 146 = .ok (.iadd, 1) := by decide +kernel
theorem dL_law_147 : decode cL_law 147 = .ok (.iaload, 1) := by decide +kernel
theorem dL_law_148 : decode cL_law 148 = .ok (.invokevirtual 13, 3) := by decide +kernel
theorem dL_law_151 : decode cL_law 151 = .ok (.aload_n 2, 1) := by decide +kernel
theorem dL_law_152 : decode cL_law 152 = .ok (.aload_n 0, 1) := by decide +kernel
theorem dL_law_153 : decode cL_law 153 = .ok (.iload_n 3, 1) := by decide +kernel
theorem dL_law_154 : decode cL_law 154 = .ok (.iconst 1, 1) := by decide +kernel
theorem dL_law_155 : decode cL_law 155 = .ok (.iadd, 1) := by decide +kernel
theorem dL_law_156 : decode cL_law 156 = .ok (.iaload, 1) := by decide +kernel
theorem dL_law_157 : decode cL_law 157 = .ok (.aload_n 0, 1) := by decide +kernel
theorem dL_law_158 : decode cL_law 158 = .ok (.iload_n 3, 1) := by decide +kernel
theorem dL_law_159 : decode cL_law 159 = .ok (.iconst 2, 1) := by decide +kernel
theorem dL_law_160 : decode cL_law 160 = .ok (.iadd, 1) := by decide +kernel
theorem dL_law_161 : decode cL_law 161 = .ok (.iaload, 1) := by decide +kernel
theorem dL_law_162 : decode cL_law 162 = .ok (.aload_n 0, 1) := by decide +kernel
theorem dL_law_163 : decode cL_law 163 = .ok (.iload_n 3, 1) := by decide +kernel
theorem dL_law_164 : decode cL_law 164 = .ok (.iconst 3, 1) := by decide +kernel
theorem dL_law_165 : decode cL_law 165 = .ok (.iadd, 1) := by decide +kernel
theorem dL_law_166 : decode cL_law 166 = .ok (.iaload, 1) := by decide +kernel
theorem dL_law_167 : decode cL_law 167 = .ok (.invokevirtual 17, 3) := by decide +kernel
theorem dL_law_170 : decode cL_law 170 = .ok (.if_icmp .eq 475, 3) := by decide +kernel
theorem dL_law_173 : decode cL_law 173 = .ok (.iconst 0, 1) := by decide +kernel
theorem dL_law_174 : decode cL_law 174 = .ok (.ireturn, 1) := by decide +kernel
theorem dL_law_175 : decode cL_law 175 = .ok (.aload_n 1, 1) := by decide +kernel
theorem dL_law_176 : decode cL_law 176 = .ok (.aload_n 0, 1) := by decide +kernel
theorem dL_law_177 : decode cL_law 177 = .ok (.iload_n 3, 1) := by decide +kernel
theorem dL_law_178 : decode cL_law 178 = .ok (.iconst 1, 1) := by decide +kernel
theorem dL_law_179 : decode cL_law 179 = .ok (.iadd, 1) := by decide +kernel
theorem dL_law_180 : decode cL_law 180 = .ok (.iaload, 1) := by decide +kernel
theorem dL_law_181 : decode cL_law 181 = .ok (.aload_n 0, 1) := by decide +kernel
theorem dL_law_182 : decode cL_law 182 = .ok (.iload_n 3, 1) := by decide +kernel
theorem dL_law_183 : decode cL_law 183 = .ok (.iconst 2, 1) := by decide +kernel
theorem dL_law_184 : decode cL_law 184 = .ok (.iadd, 1) := by decide +kernel
theorem dL_law_185 : decode cL_law 185 = .ok (.iaload, 1) := by decide +kernel
theorem dL_law_186 : decode cL_law 186 = .ok (.invokevirtual 18, 3) := by decide +kernel
theorem dL_law_189 : decode cL_law 189 = .ok (.aload_n 2, 1) := by decide +kernel
theorem dL_law_190 : decode cL_law 190 = .ok (.aload_n 0, 1) := by decide +kernel
theorem dL_law_191 : decode cL_law 191 = .ok (.iload_n 3, 1) := by decide +kernel
theorem dL_law_192 : decode cL_law 192 = .ok (.iconst 1, 1) := by decide +kernel
theorem dL_law_193 : decode cL_law 193 = .ok (.iadd, 1) := by decide +kernel
theorem dL_law_194 : decode cL_law 194 = .ok (.iaload, 1) := by decide +kernel
theorem dL_law_195 : decode cL_law 195 = .ok (.aload_n 0, 1) := by decide +kernel
theorem dL_law_196 : decode cL_law 196 = .ok (.iload_n 3, 1) := by decide +kernel
theorem dL_law_197 : decode cL_law 197 = .ok (.iconst 2, 1) := by decide +kernel
theorem dL_law_198 : decode cL_law 198 = .ok (.iadd, 1) := by decide +kernel
theorem dL_law_199 : decode cL_law 199 = .ok (.iaload, 1) := by decide +kernel
theorem dL_law_200 : decode cL_law 200 = .ok (.invokevirtual 22, 3) := by decide +kernel
theorem dL_law_203 : decode cL_law 203 = .ok (.if_icmp .eq 442, 3) := by decide +kernel
theorem dL_law_206 : decode cL_law 206 = .ok (.iconst 0, 1) := by decide +kernel
theorem dL_law_207 : decode cL_law 207 = .ok (.ireturn, 1) := by decide +kernel
theorem dL_law_208 : decode cL_law 208 = .ok (.aload_n 1, 1) := by decide +kernel
theorem dL_law_209 : decode cL_law 209 = .ok (.aload_n 0, 1) := by decide +kernel
theorem dL_law_210 : decode cL_law 210 = .ok (.iload_n 3, 1) := by decide +kernel
theorem dL_law_211 : decode cL_law 211 = .ok (.iconst 1, 1) := by decide +kernel
theorem dL_law_212 : decode cL_law 212 = .ok (.iadd, 1) := by decide +kernel
theorem dL_law_213 : decode cL_law 213 = .ok (.iaload, 1) := by decide +kernel
theorem dL_law_214 : decode cL_law 214 = .ok (.aload_n 0, 1) := by decide +kernel
theorem dL_law_215 : decode cL_law 215 = .ok (.iload_n 3, 1) := by decide +kernel
theorem dL_law_216 : decode cL_law 216 = .ok (.iconst 2, 1) := by decide +kernel
theorem dL_law_217 : decode cL_law 217 = .ok (.iadd, 1) := by decide +kernel
theorem dL_law_218 : decode cL_law 218 = .ok (.iaload, 1) := by decide +kernel
theorem dL_law_219 : decode cL_law 219 = .ok (.aload_n 0, 1) := by decide +kernel
theorem dL_law_220 : decode cL_law 220 = .ok (.iload_n 3, 1) := by decide +kernel
theorem dL_law_221 : decode cL_law 221 = .ok (.iconst 3, 1) := by decide +kernel
theorem dL_law_222 : decode cL_law 222 = .ok (.iadd, 1) := by decide +kernel
theorem dL_law_223 : decode cL_law 223 = .ok (.iaload, 1) := by decide +kernel
theorem dL_law_224 : decode cL_law 224 = .ok (.aload_n 0, 1) := by decide +kernel
theorem dL_law_225 : decode cL_law 225 = .ok (.iload_n 3, 1) := by decide +kernel
theorem dL_law_226 : decode cL_law 226 = .ok (.iconst 4, 1) := by decide +kernel
theorem dL_law_227 : decode cL_law 227 = .ok (.iadd, 1) := by decide +kernel
theorem dL_law_228 : decode cL_law 228 = .ok (.iaload, 1) := by decide +kernel
theorem dL_law_229 : decode cL_law 229 = .ok (.invokevirtual 23, 3) := by decide +kernel
theorem dL_law_232 : decode cL_law 232 = .ok (.aload_n 2, 1) := by decide +kernel
theorem dL_law_233 : decode cL_law 233 = .ok (.aload_n 0, 1) := by decide +kernel
theorem dL_law_234 : decode cL_law 234 = .ok (.iload_n 3, 1) := by decide +kernel
theorem dL_law_235 : decode cL_law 235 = .ok (.iconst 1, 1) := by decide +kernel
theorem dL_law_236 : decode cL_law 236 = .ok (.iadd, 1) := by decide +kernel
theorem dL_law_237 : decode cL_law 237 = .ok (.iaload, 1) := by decide +kernel
theorem dL_law_238 : decode cL_law 238 = .ok (.aload_n 0, 1) := by decide +kernel
theorem dL_law_239 : decode cL_law 239 = .ok (.iload_n 3, 1) := by decide +kernel
theorem dL_law_240 : decode cL_law 240 = .ok (.iconst 2, 1) := by decide +kernel
theorem dL_law_241 : decode cL_law 241 = .ok (.iadd, 1) := by decide +kernel
theorem dL_law_242 : decode cL_law 242 = .ok (.iaload, 1) := by decide +kernel
theorem dL_law_243 : decode cL_law 243 = .ok (.aload_n 0, 1) := by decide +kernel
theorem dL_law_244 : decode cL_law 244 = .ok (.iload_n 3, 1) := by decide +kernel
theorem dL_law_245 : decode cL_law 245 = .ok (.iconst 3, 1) := by decide +kernel
theorem dL_law_246 : decode cL_law 246 = .ok (.iadd, 1) := by decide +kernel
theorem dL_law_247 : decode cL_law 247 = .ok (.iaload, 1) := by decide +kernel
theorem dL_law_248 : decode cL_law 248 = .ok (.aload_n 0, 1) := by decide +kernel
theorem dL_law_249 : decode cL_law 249 = .ok (.iload_n 3, 1) := by decide +kernel
theorem dL_law_250 : decode cL_law 250 = .ok (.iconst 4, 1) := by decide +kernel
theorem dL_law_251 : decode cL_law 251 = .ok (.iadd, 1) := by decide +kernel
theorem dL_law_252 : decode cL_law 252 = .ok (.iaload, 1) := by decide +kernel
theorem dL_law_253 : decode cL_law 253 = .ok (.invokevirtual 27, 3) := by decide +kernel
theorem dL_law_256 : decode cL_law 256 = .ok (.if_icmp .eq 389, 3) := by decide +kernel
theorem dL_law_259 : decode cL_law 259 = .ok (.iconst 0, 1) := by decide +kernel
theorem dL_law_260 : decode cL_law 260 = .ok (.ireturn, 1) := by decide +kernel
theorem dL_law_261 : decode cL_law 261 = .ok (.aload_n 1, 1) := by decide +kernel
theorem dL_law_262 : decode cL_law 262 = .ok (.aload_n 0, 1) := by decide +kernel
theorem dL_law_263 : decode cL_law 263 = .ok (.iload_n 3, 1) := by decide +kernel
theorem dL_law_264 : decode cL_law 264 = .ok (.iconst 1, 1) := by decide +kernel
theorem dL_law_265 : decode cL_law 265 = .ok (.iadd, 1) := by decide +kernel
theorem dL_law_266 : decode cL_law 266 = .ok (.iaload, 1) := by decide +kernel
theorem dL_law_267 : decode cL_law 267 = .ok (.aload_n 0, 1) := by decide +kernel
theorem dL_law_268 : decode cL_law 268 = .ok (.iload_n 3, 1) := by decide +kernel
theorem dL_law_269 : decode cL_law 269 = .ok (.iconst 2, 1) := by decide +kernel
theorem dL_law_270 : decode cL_law 270 = .ok (.iadd, 1) := by decide +kernel
theorem dL_law_271 : decode cL_law 271 = .ok (.iaload, 1) := by decide +kernel
theorem dL_law_272 : decode cL_law 272 = .ok (.invokevirtual 28, 3) := by decide +kernel
theorem dL_law_275 : decode cL_law 275 = .ok (.aload_n 2, 1) := by decide +kernel
theorem dL_law_276 : decode cL_law 276 = .ok (.aload_n 0, 1) := by decide +kernel
theorem dL_law_277 : decode cL_law 277 = .ok (.iload_n 3, 1) := by decide +kernel
theorem dL_law_278 : decode cL_law 278 = .ok (.iconst 1, 1) := by decide +kernel
theorem dL_law_279 : decode cL_law 279 = .ok (.iadd, 1) := by decide +kernel
theorem dL_law_280 : decode cL_law 280 = .ok (.iaload, 1) := by decide +kernel
theorem dL_law_281 : decode cL_law 281 = .ok (.aload_n 0, 1) := by decide +kernel
theorem dL_law_282 : decode cL_law 282 = .ok (.iload_n 3, 1) := by decide +kernel
theorem dL_law_283 : decode cL_law 283 = .ok (.iconst 2, 1) := by decide +kernel
theorem dL_law_284 : decode cL_law 284 = .ok (.iadd, 1) := by decide +kernel
theorem dL_law_285 : decode cL_law 285 = .ok (.iaload, 1) := by decide +kernel
theorem dL_law_286 : decode cL_law 286 = .ok (.invokevirtual 31, 3) := by decide +kernel
theorem dL_law_289 : decode cL_law 289 = .ok (.if_icmp .eq 356, 3) := by decide +kernel
theorem dL_law_292 : decode cL_law 292 = .ok (.iconst 0, 1) := by decide +kernel
theorem dL_law_293 : decode cL_law 293 = .ok (.ireturn, 1) := by decide +kernel
theorem dL_law_294 : decode cL_law 294 = .ok (.aload_n 1, 1) := by decide +kernel
theorem dL_law_295 : decode cL_law 295 = .ok (.aload_n 0, 1) := by decide +kernel
theorem dL_law_296 : decode cL_law 296 = .ok (.iload_n 3, 1) := by decide +kernel
theorem dL_law_297 : decode cL_law 297 = .ok (.iconst 1, 1) := by decide +kernel
theorem dL_law_298 : decode cL_law 298 = .ok (.iadd, 1) := by decide +kernel
theorem dL_law_299 : decode cL_law 299 = .ok (.iaload, 1) := by decide +kernel
theorem dL_law_300 : decode cL_law 300 = .ok (.aload_n 0, 1) := by decide +kernel
theorem dL_law_301 : decode cL_law 301 = .ok (.iload_n 3, 1) := by decide +kernel
theorem dL_law_302 : decode cL_law 302 = .ok (.iconst 2, 1) := by decide +kernel
theorem dL_law_303 : decode cL_law 303 = .ok (.iadd, 1) := by decide +kernel
theorem dL_law_304 : decode cL_law 304 = .ok (.iaload, 1) := by decide +kernel
theorem dL_law_305 : decode cL_law 305 = .ok (.invokevirtual 32, 3) := by decide +kernel
theorem dL_law_308 : decode cL_law 308 = .ok (.aload_n 2, 1) := by decide +kernel
theorem dL_law_309 : decode cL_law 309 = .ok (.aload_n 0, 1) := by decide +kernel
theorem dL_law_310 : decode cL_law 310 = .ok (.iload_n 3, 1) := by decide +kernel
theorem dL_law_311 : decode cL_law 311 = .ok (.iconst 1, 1) := by decide +kernel
theorem dL_law_312 : decode cL_law 312 = .ok (.iadd, 1) := by decide +kernel
theorem dL_law_313 : decode cL_law 313 = .ok (.iaload, 1) := by decide +kernel
theorem dL_law_314 : decode cL_law 314 = .ok (.aload_n 0, 1) := by decide +kernel
theorem dL_law_315 : decode cL_law 315 = .ok (.iload_n 3, 1) := by decide +kernel
theorem dL_law_316 : decode cL_law 316 = .ok (.iconst 2, 1) := by decide +kernel
theorem dL_law_317 : decode cL_law 317 = .ok (.iadd, 1) := by decide +kernel
theorem dL_law_318 : decode cL_law 318 = .ok (.iaload, 1) := by decide +kernel
theorem dL_law_319 : decode cL_law 319 = .ok (.invokevirtual 35, 3) := by decide +kernel
theorem dL_law_322 : decode cL_law 322 = .ok (.if_icmp .eq 323, 3) := by decide +kernel
theorem dL_law_325 : decode cL_law 325 = .ok (.iconst 0, 1) := by decide +kernel
theorem dL_law_326 : decode cL_law 326 = .ok (.ireturn, 1) := by decide +kernel
theorem dL_law_327 : decode cL_law 327 = .ok (.aload_n 1, 1) := by decide +kernel
theorem dL_law_328 : decode cL_law 328 = .ok (.aload_n 0, 1) := by decide +kernel
theorem dL_law_329 : decode cL_law 329 = .ok (.iload_n 3, 1) := by decide +kernel
theorem dL_law_330 : decode cL_law 330 = .ok (.iconst 1, 1) := by decide +kernel
theorem dL_law_331 : decode cL_law 331 = .ok (.iadd, 1) := by decide +kernel
theorem dL_law_332 : decode cL_law 332 = .ok (.iaload, 1) := by decide +kernel
theorem dL_law_333 : decode cL_law 333 = .ok (.invokevirtual 36, 3) := by decide +kernel
theorem dL_law_336 : decode cL_law 336 = .ok (.aload_n 2, 1) := by decide +kernel
theorem dL_law_337 : decode cL_law 337 = .ok (.aload_n 0, 1) := by decide +kernel
theorem dL_law_338 : decode cL_law 338 = .ok (.iload_n 3, 1) := by decide +kernel
theorem dL_law_339 : decode cL_law 339 = .ok (.iconst 1, 1) := by decide +kernel
theorem dL_law_340 : decode cL_law 340 = .ok (.iadd, 1) := by decide +kernel
theorem dL_law_341 : decode cL_law 341 = .ok (.iaload, 1) := by decide +kernel
theorem dL_law_342 : decode cL_law 342 = .ok (.invokevirtual 40, 3) := by decide +kernel
theorem dL_law_345 : decode cL_law 345 = .ok (.if_icmp .eq 300, 3) := by decide +kernel
theorem dL_law_348 : decode cL_law 348 = .ok (.iconst 0, 1) := by decide +kernel
theorem dL_law_349 : decode cL_law 349 = .ok (.ireturn, 1) := by decide +kernel
theorem dL_law_350 : decode cL_law 350 = .ok (.aload_n 1, 1) := by decide +kernel
theorem dL_law_351 : decode cL_law 351 = .ok (.invokevirtual 41, 3) := by decide +kernel
theorem dL_law_354 : decode cL_law 354 = .ok (.aload_n 2, 1) := by decide +kernel
theorem dL_law_355 : decode cL_law 355 = .ok (.invokevirtual 45, 3) := by decide +kernel
theorem dL_law_358 : decode cL_law 358 = .ok (.if_icmp .eq 287, 3) := by decide +kernel
theorem dL_law_361 : decode cL_law 361 = .ok (.iconst 0, 1) := by decide +kernel
theorem dL_law_362 : decode cL_law 362 = .ok (.ireturn, 1) := by decide +kernel
theorem dL_law_363 : decode cL_law 363 = .ok (.aload_n 1, 1) := by decide +kernel
theorem dL_law_364 : decode cL_law 364 = .ok (.invokevirtual 46, 3) := by decide +kernel
theorem dL_law_367 : decode cL_law 367 = .ok (.aload_n 2, 1) := by decide +kernel
theorem dL_law_368 : decode cL_law 368 = .ok (.invokevirtual 49, 3) := by decide +kernel
theorem dL_law_371 : decode cL_law 371 = .ok (.if_icmp .eq 274, 3) := by decide +kernel
theorem dL_law_374 : decode cL_law 374 = .ok (.iconst 0, 1) := by decide +kernel
theorem dL_law_375 : decode cL_law 375 = .ok (.ireturn, 1) := by decide +kernel
theorem dL_law_376 : decode cL_law 376 = .ok (.aload_n 1, 1) := by decide +kernel
theorem dL_law_377 : decode cL_law 377 = .ok (.invokevirtual 50, 3) := by decide +kernel
theorem dL_law_380 : decode cL_law 380 = .ok (.aload_n 2, 1) := by decide +kernel
theorem dL_law_381 : decode cL_law 381 = .ok (.invokevirtual 53, 3) := by decide +kernel
theorem dL_law_384 : decode cL_law 384 = .ok (.if_icmp .eq 261, 3) := by decide +kernel
theorem dL_law_387 : decode cL_law 387 = .ok (.iconst 0, 1) := by decide +kernel
theorem dL_law_388 : decode cL_law 388 = .ok (.ireturn, 1) := by decide +kernel
theorem dL_law_389 : decode cL_law 389 = .ok (.aload_n 1, 1) := by decide +kernel
theorem dL_law_390 : decode cL_law 390 = .ok (.aload_n 0, 1) := by decide +kernel
theorem dL_law_391 : decode cL_law 391 = .ok (.iload_n 3, 1) := by decide +kernel
theorem dL_law_392 : decode cL_law 392 = .ok (.iconst 1, 1) := by decide +kernel
theorem dL_law_393 : decode cL_law 393 = .ok (.iadd, 1) := by decide +kernel
theorem dL_law_394 : decode cL_law 394 = .ok (.iaload, 1) := by decide +kernel
theorem dL_law_395 : decode cL_law 395 = .ok (.aload_n 0, 1) := by decide +kernel
theorem dL_law_396 : decode cL_law 396 = .ok (.iload_n 3, 1) := by decide +kernel
theorem dL_law_397 : decode cL_law 397 = .ok (.iconst 2, 1) := by decide +kernel
theorem dL_law_398 : decode cL_law 398 = .ok (.iadd, 1) := by decide +kernel
theorem dL_law_399 : decode cL_law 399 = .ok (.iaload, 1) := by decide +kernel
theorem dL_law_400 : decode cL_law 400 = .ok (.invokevirtual 54, 3) := by decide +kernel
theorem dL_law_403 : decode cL_law 403 = .ok (.aload_n 2, 1) := by decide +kernel
theorem dL_law_404 : decode cL_law 404 = .ok (.aload_n 0, 1) := by decide +kernel
theorem dL_law_405 : decode cL_law 405 = .ok (.iload_n 3, 1) := by decide +kernel
theorem dL_law_406 : decode cL_law 406 = .ok (.iconst 1, 1) := by decide +kernel
theorem dL_law_407 : decode cL_law 407 = .ok (.iadd, 1) := by decide +kernel
theorem dL_law_408 : decode cL_law 408 = .ok (.iaload, 1) := by decide +kernel
theorem dL_law_409 : decode cL_law 409 = .ok (.aload_n 0, 1) := by decide +kernel
theorem dL_law_410 : decode cL_law 410 = .ok (.iload_n 3, 1) := by decide +kernel
theorem dL_law_411 : decode cL_law 411 = .ok (.iconst 2, 1) := by decide +kernel
theorem dL_law_412 : decode cL_law 412 = .ok (.iadd, 1) := by decide +kernel
theorem dL_law_413 : decode cL_law 413 = .ok (.iaload, 1) := by decide +kernel
theorem dL_law_414 : decode cL_law 414 = .ok (.invokevirtual 57, 3) := by decide +kernel
theorem dL_law_417 : decode cL_law 417 = .ok (.if_icmp .eq 228, 3) := by decide +kernel
theorem dL_law_420 : decode cL_law 420 = .ok (.iconst 0, 1) := by decide +kernel
theorem dL_law_421 : decode cL_law 421 = .ok (.ireturn, 1) := by decide +kernel
theorem dL_law_422 : decode cL_law 422 = .ok (.aload_n 1, 1) := by decide +kernel
theorem dL_law_423 : decode cL_law 423 = .ok (.aload_n 0, 1) := by decide +kernel
theorem dL_law_424 : decode cL_law 424 = .ok (.iload_n 3, 1) := by decide +kernel
theorem dL_law_425 : decode cL_law 425 = .ok (.iconst 1, 1) := by decide +kernel
theorem dL_law_426 : decode cL_law 426 = .ok (.iadd, 1) := by decide +kernel
theorem dL_law_427 : decode cL_law 427 = .ok (.iaload, 1) := by decide +kernel
theorem dL_law_428 : decode cL_law 428 = .ok (.aload_n 0, 1) := by decide +kernel
theorem dL_law_429 : decode cL_law 429 = .ok (.iload_n 3, 1) := by decide +kernel
theorem dL_law_430 : decode cL_law 430 = .ok (.iconst 2, 1) := by decide +kernel
theorem dL_law_431 : decode cL_law 431 = .ok (.iadd, 1) := by decide +kernel
theorem dL_law_432 : decode cL_law 432 = .ok (.iaload, 1) := by decide +kernel
theorem dL_law_433 : decode cL_law 433 = .ok (.invokevirtual 58, 3) := by decide +kernel
theorem dL_law_436 : decode cL_law 436 = .ok (.aload_n 2, 1) := by decide +kernel
theorem dL_law_437 : decode cL_law 437 = .ok (.aload_n 0, 1) := by decide +kernel
theorem dL_law_438 : decode cL_law 438 = .ok (.iload_n 3, 1) := by decide +kernel
theorem dL_law_439 : decode cL_law 439 = .ok (.iconst 1, 1) := by decide +kernel
theorem dL_law_440 : decode cL_law 440 = .ok (.iadd, 1) := by decide +kernel
theorem dL_law_441 : decode cL_law 441 = .ok (.iaload, 1) := by decide +kernel
theorem dL_law_442 : decode cL_law 442 = .ok (.aload_n 0, 1) := by decide +kernel
theorem dL_law_443 : decode cL_law 443 = .ok (.iload_n 3, 1) := by decide +kernel
theorem dL_law_444 : decode cL_law 444 = .ok (.iconst 2, 1) := by decide +kernel
theorem dL_law_445 : decode cL_law 445 = .ok (.iadd, 1) := by decide +kernel
theorem dL_law_446 : decode cL_law 446 = .ok (.iaload, 1) := by decide +kernel
theorem dL_law_447 : decode cL_law 447 = .ok (.invokevirtual 61, 3) := by decide +kernel
theorem dL_law_450 : decode cL_law 450 = .ok (.if_icmp .eq 195, 3) := by decide +kernel
theorem dL_law_453 : decode cL_law 453 = .ok (.iconst 0, 1) := by decide +kernel
theorem dL_law_454 : decode cL_law 454 = .ok (.ireturn, 1) := by decide +kernel
theorem dL_law_455 : decode cL_law 455 = .ok (.aload_n 1, 1) := by decide +kernel
theorem dL_law_456 : decode cL_law 456 = .ok (.aload_n 0, 1) := by decide +kernel
theorem dL_law_457 : decode cL_law 457 = .ok (.iload_n 3, 1) := by decide +kernel
theorem dL_law_458 : decode cL_law 458 = .ok (.iconst 1, 1) := by decide +kernel
theorem dL_law_459 : decode cL_law 459 = .ok (.iadd, 1) := by decide +kernel
theorem dL_law_460 : decode cL_law 460 = .ok (.iaload, 1) := by decide +kernel
theorem dL_law_461 : decode cL_law 461 = .ok (.invokevirtual 62, 3) := by decide +kernel
theorem dL_law_464 : decode cL_law 464 = .ok (.aload_n 2, 1) := by decide +kernel
theorem dL_law_465 : decode cL_law 465 = .ok (.aload_n 0, 1) := by decide +kernel
theorem dL_law_466 : decode cL_law 466 = .ok (.iload_n 3, 1) := by decide +kernel
theorem dL_law_467 : decode cL_law 467 = .ok (.iconst 1, 1) := by decide +kernel
theorem dL_law_468 : decode cL_law 468 = .ok (.iadd, 1) := by decide +kernel
theorem dL_law_469 : decode cL_law 469 = .ok (.iaload, 1) := by decide +kernel
theorem dL_law_470 : decode cL_law 470 = .ok (.invokevirtual 65, 3) := by decide +kernel
theorem dL_law_473 : decode cL_law 473 = .ok (.if_icmp .eq 172, 3) := by decide +kernel
theorem dL_law_476 : decode cL_law 476 = .ok (.iconst 0, 1) := by decide +kernel
theorem dL_law_477 : decode cL_law 477 = .ok (.ireturn, 1) := by decide +kernel
theorem dL_law_478 : decode cL_law 478 = .ok (.aload_n 1, 1) := by decide +kernel
theorem dL_law_479 : decode cL_law 479 = .ok (.invokevirtual 66, 3) := by decide +kernel
theorem dL_law_482 : decode cL_law 482 = .ok (.aload_n 2, 1) := by decide +kernel
theorem dL_law_483 : decode cL_law 483 = .ok (.invokevirtual 69, 3) := by decide +kernel
theorem dL_law_486 : decode cL_law 486 = .ok (.if_icmp .eq 159, 3) := by decide +kernel
theorem dL_law_489 : decode cL_law 489 = .ok (.iconst 0, 1) := by decide +kernel
theorem dL_law_490 : decode cL_law 490 = .ok (.ireturn, 1) := by decide +kernel
theorem dL_law_491 : decode cL_law 491 = .ok (.aload_n 1, 1) := by decide +kernel
theorem dL_law_492 : decode cL_law 492 = .ok (.invokevirtual 70, 3) := by decide +kernel
theorem dL_law_495 : decode cL_law 495 = .ok (.aload_n 2, 1) := by decide +kernel
theorem dL_law_496 : decode cL_law 496 = .ok (.invokevirtual 73, 3) := by decide +kernel
theorem dL_law_499 : decode cL_law 499 = .ok (.if_icmp .eq 146, 3) := by decide +kernel
theorem dL_law_502 : decode cL_law 502 = .ok (.iconst 0, 1) := by decide +kernel
theorem dL_law_503 : decode cL_law 503 = .ok (.ireturn, 1) := by decide +kernel
theorem dL_law_504 : decode cL_law 504 = .ok (.aload_n 1, 1) := by decide +kernel
theorem dL_law_505 : decode cL_law 505 = .ok (.invokevirtual 74, 3) := by decide +kernel
theorem dL_law_508 : decode cL_law 508 = .ok (.aload_n 2, 1) := by decide +kernel
theorem dL_law_509 : decode cL_law 509 = .ok (.invokevirtual 77, 3) := by decide +kernel
theorem dL_law_512 : decode cL_law 512 = .ok (.if_icmp .eq 133, 3) := by decide +kernel
theorem dL_law_515 : decode cL_law 515 = .ok (.iconst 0, 1) := by decide +kernel
theorem dL_law_516 : decode cL_law 516 = .ok (.ireturn, 1) := by decide +kernel
theorem dL_law_517 : decode cL_law 517 = .ok (.aload_n 1, 1) := by decide +kernel
theorem dL_law_518 : decode cL_law 518 = .ok (.aload_n 0, 1) := by decide +kernel
theorem dL_law_519 : decode cL_law 519 = .ok (.iload_n 3, 1) := by decide +kernel
theorem dL_law_520 : decode cL_law 520 = .ok (.iconst 1, 1) := by decide +kernel
theorem dL_law_521 : decode cL_law 521 = .ok (.iadd, 1) := by decide +kernel
theorem dL_law_522 : decode cL_law 522 = .ok (.iaload, 1) := by decide +kernel
theorem dL_law_523 : decode cL_law 523 = .ok (.invokevirtual 78, 3) := by decide +kernel
theorem dL_law_526 : decode cL_law 526 = .ok (.aload_n 2, 1) := by decide +kernel
theorem dL_law_527 : decode cL_law 527 = .ok (.aload_n 0, 1) := by decide +kernel
theorem dL_law_528 : decode cL_law 528 = .ok (.iload_n 3, 1) := by decide +kernel
theorem dL_law_529 : decode cL_law 529 = .ok (.iconst 1, 1) := by decide +kernel
theorem dL_law_530 : decode cL_law 530 = .ok (.iadd, 1) := by decide +kernel
theorem dL_law_531 : decode cL_law 531 = .ok (.iaload, 1) := by decide +kernel
theorem dL_law_532 : decode cL_law 532 = .ok (.invokevirtual 81, 3) := by decide +kernel
theorem dL_law_535 : decode cL_law 535 = .ok (.if_icmp .eq 110, 3) := by decide +kernel
theorem dL_law_538 : decode cL_law 538 = .ok (.iconst 0, 1) := by decide +kernel
theorem dL_law_539 : decode cL_law 539 = .ok (.ireturn, 1) := by decide +kernel
theorem dL_law_540 : decode cL_law 540 = .ok (.aload_n 1, 1) := by decide +kernel
theorem dL_law_541 : decode cL_law 541 = .ok (.aload_n 0, 1) := by decide +kernel
theorem dL_law_542 : decode cL_law 542 = .ok (.iload_n 3, 1) := by decide +kernel
theorem dL_law_543 : decode cL_law 543 = .ok (.iconst 1, 1) := by decide +kernel
theorem dL_law_544 : decode cL_law 544 = .ok (.iadd, 1) := by decide +kernel
theorem dL_law_545 : decode cL_law 545 = .ok (.iaload, 1) := by decide +kernel
theorem dL_law_546 : decode cL_law 546 = .ok (.invokevirtual 82, 3) := by decide +kernel
theorem dL_law_549 : decode cL_law 549 = .ok (.aload_n 2, 1) := by decide +kernel
theorem dL_law_550 : decode cL_law 550 = .ok (.aload_n 0, 1) := by decide +kernel
theorem dL_law_551 : decode cL_law 551 = .ok (.iload_n 3, 1) := by decide +kernel
theorem dL_law_552 : decode cL_law 552 = .ok (.iconst 1, 1) := by decide +kernel
theorem dL_law_553 : decode cL_law 553 = .ok (.iadd, 1) := by decide +kernel
theorem dL_law_554 : decode cL_law 554 = .ok (.iaload, 1) := by decide +kernel
theorem dL_law_555 : decode cL_law 555 = .ok (.invokevirtual 85, 3) := by decide +kernel
theorem dL_law_558 : decode cL_law 558 = .ok (.if_icmp .eq 87, 3) := by decide +kernel
theorem dL_law_561 : decode cL_law 561 = .ok (.iconst 0, 1) := by decide +kernel
theorem dL_law_562 : decode cL_law 562 = .ok (.ireturn, 1) := by decide +kernel
theorem dL_law_563 : decode cL_law 563 = .ok (.aload_n 1, 1) := by decide +kernel
theorem dL_law_564 : decode cL_law 564 = .ok (.invokevirtual 86, 3) := by decide +kernel
theorem dL_law_567 : decode cL_law 567 = .ok (.aload_n 2, 1) := by decide +kernel
theorem dL_law_568 : decode cL_law 568 = .ok (.invokevirtual 89, 3) := by decide +kernel
theorem dL_law_571 : decode cL_law 571 = .ok (.if_icmp .eq 74, 3) := by decide +kernel
theorem dL_law_574 : decode cL_law 574 = .ok (.iconst 0, 1) := by decide +kernel
theorem dL_law_575 : decode cL_law 575 = .ok (.ireturn, 1) := by decide +kernel
theorem dL_law_576 : decode cL_law 576 = .ok (.aload_n 1, 1) := by decide +kernel
theorem dL_law_577 : decode cL_law 577 = .ok (.aload_n 0, 1) := by decide +kernel
theorem dL_law_578 : decode cL_law 578 = .ok (.iload_n 3, 1) := by decide +kernel
theorem dL_law_579 : decode cL_law 579 = .ok (.iconst 1, 1) := by decide +kernel
theorem dL_law_580 : decode cL_law 580 = .ok (.iadd, 1) := by decide +kernel
theorem dL_law_581 : decode cL_law 581 = .ok (.iaload, 1) := by decide +kernel
theorem dL_law_582 : decode cL_law 582 = .ok (.invokevirtual 90, 3) := by decide +kernel
theorem dL_law_585 : decode cL_law 585 = .ok (.aload_n 2, 1) := by decide +kernel
theorem dL_law_586 : decode cL_law 586 = .ok (.aload_n 0, 1) := by decide +kernel
theorem dL_law_587 : decode cL_law 587 = .ok (.iload_n 3, 1) := by decide +kernel
theorem dL_law_588 : decode cL_law 588 = .ok (.iconst 1, 1) := by decide +kernel
theorem dL_law_589 : decode cL_law 589 = .ok (.iadd, 1) := by decide +kernel
theorem dL_law_590 : decode cL_law 590 = .ok (.iaload, 1) := by decide +kernel
theorem dL_law_591 : decode cL_law 591 = .ok (.invokevirtual 93, 3) := by decide +kernel
theorem dL_law_594 : decode cL_law 594 = .ok (.if_icmp .eq 51, 3) := by decide +kernel
theorem dL_law_597 : decode cL_law 597 = .ok (.iconst 0, 1) := by decide +kernel
theorem dL_law_598 : decode cL_law 598 = .ok (.ireturn, 1) := by decide +kernel
theorem dL_law_599 : decode cL_law 599 = .ok (.aload_n 1, 1) := by decide +kernel
theorem dL_law_600 : decode cL_law 600 = .ok (.aload_n 0, 1) := by decide +kernel
theorem dL_law_601 : decode cL_law 601 = .ok (.iload_n 3, 1) := by decide +kernel
theorem dL_law_602 : decode cL_law 602 = .ok (.iconst 1, 1) := by decide +kernel
theorem dL_law_603 : decode cL_law 603 = .ok (.iadd, 1) := by decide +kernel
theorem dL_law_604 : decode cL_law 604 = .ok (.iaload, 1) := by decide +kernel
theorem dL_law_605 : decode cL_law 605 = .ok (.invokevirtual 94, 3) := by decide +kernel
theorem dL_law_608 : decode cL_law 608 = .ok (.aload_n 2, 1) := by decide +kernel
theorem dL_law_609 : decode cL_law 609 = .ok (.aload_n 0, 1) := by decide +kernel
theorem dL_law_610 : decode cL_law 610 = .ok (.iload_n 3, 1) := by decide +kernel
theorem dL_law_611 : decode cL_law 611 = .ok (.iconst 1, 1) := by decide +kernel
theorem dL_law_612 : decode cL_law 612 = .ok (.iadd, 1) := by decide +kernel
theorem dL_law_613 : decode cL_law 613 = .ok (.iaload, 1) := by decide +kernel
theorem dL_law_614 : decode cL_law 614 = .ok (.invokevirtual 97, 3) := by decide +kernel
theorem dL_law_617 : decode cL_law 617 = .ok (.if_icmp .eq 28, 3) := by decide +kernel
theorem dL_law_620 : decode cL_law 620 = .ok (.iconst 0, 1) := by decide +kernel
theorem dL_law_621 : decode cL_law 621 = .ok (.ireturn, 1) := by decide +kernel
theorem dL_law_622 : decode cL_law 622 = .ok (.aload_n 1, 1) := by decide +kernel
theorem dL_law_623 : decode cL_law 623 = .ok (.aload_n 0, 1) := by decide +kernel
theorem dL_law_624 : decode cL_law 624 = .ok (.iload_n 3, 1) := by decide +kernel
theorem dL_law_625 : decode cL_law 625 = .ok (.iconst 1, 1) := by decide +kernel
theorem dL_law_626 : decode cL_law 626 = .ok (.iadd, 1) := by decide +kernel
theorem dL_law_627 : decode cL_law 627 = .ok (.iaload, 1) := by decide +kernel
theorem dL_law_628 : decode cL_law 628 = .ok (.invokevirtual 98, 3) := by decide +kernel
theorem dL_law_631 : decode cL_law 631 = .ok (.aload_n 2, 1) := by decide +kernel
theorem dL_law_632 : decode cL_law 632 = .ok (.aload_n 0, 1) := by decide +kernel
theorem dL_law_633 : decode cL_law 633 = .ok (.iload_n 3, 1) := by decide +kernel
theorem dL_law_634 : decode cL_law 634 = .ok (.iconst 1, 1) := by decide +kernel
theorem dL_law_635 : decode cL_law 635 = .ok (.iadd, 1) := by decide +kernel
theorem dL_law_636 : decode cL_law 636 = .ok (.iaload, 1) := by decide +kernel
theorem dL_law_637 : decode cL_law 637 = .ok (.invokevirtual 101, 3) := by decide +kernel
theorem dL_law_640 : decode cL_law 640 = .ok (.if_icmp .eq 5, 3) := by decide +kernel
theorem dL_law_643 : decode cL_law 643 = .ok (.iconst 0, 1) := by decide +kernel
theorem dL_law_644 : decode cL_law 644 = .ok (.ireturn, 1) := by decide +kernel
theorem dL_law_645 : decode cL_law 645 = .ok (.iinc 3 5, 3) := by decide +kernel
theorem dL_law_648 : decode cL_law 648 = .ok (.goto (-630), 3) := by decide +kernel
theorem dL_law_651 : decode cL_law 651 = .ok (.iconst 1, 1) := by decide +kernel
theorem dL_law_652 : decode cL_law 652 = .ok (.ireturn, 1) := by decide +kernel
