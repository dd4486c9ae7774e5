theorem dX0_init_0 : decode cX0_init 0 = .ok (.aload_n 0, 1) := by decide +kernel
theorem dX0_init_1 : decode cX0_init 1 = .ok (.invokespecial 3, 3) := by decide +kernel
theorem dX0_init_4 : decode cX0_init 4 = .ok (.aload_n 0, 1) := by decide +kernel
theorem dX0_init_5 : decode cX0_init 5 = .ok (.bipush 24, 2) := by decide +kernel
theorem dX0_init_7 : decode cX0_init 7 = .ok (.newarray .int, 2) := by decide +kernel
theorem dX0_init_9 : decode cX0_init 9 = .ok (.putfield 9, 3) := by decide +kernel
theorem dX0_init_12 : decode cX0_init 12 = .ok (.aload_n 0, 1) := by decide +kernel
theorem dX0_init_13 : decode cX0_init 13 = .ok (.bipush 24, 2) := by decide +kernel
theorem dX0_init_15 : decode cX0_init 15 = .ok (.newarray .int, 2) := by decide +kernel
theorem dX0_init_17 : decode cX0_init 17 = .ok (.putfield 15, 3) := by decide +kernel
theorem dX0_init_20 : decode cX0_init 20 = .ok (.aload_n 0, 1) := by decide +kernel
theorem dX0_init_21 : decode cX0_init 21 = .ok (.bipush 24, 2) := by decide +kernel
theorem dX0_init_23 : decode cX0_init 23 = .ok (.newarray .int, 2) := by decide +kernel
theorem dX0_init_25 : decode cX0_init 25 = .ok (.putfield 18, 3) := by decide +kernel
theorem dX0_init_28 : decode cX0_init 28 = .ok (.return_, 1) := by decide +kernel
theorem dX0_keep_0 : decode cX0_keep 0 = .ok (.aload_n 0, 1) := by decide +kernel
theorem dX0_keep_1 : decode cX0_keep 1 = .ok (.getfield 9, 3) := by decide +kernel
theorem dX0_keep_4 : decode cX0_keep 4 = .ok (.aload_n 0, 1) := by decide +kernel
theorem dX0_keep_5 : decode cX0_keep 5 = .ok (.getfield 21, 3) := by decide +kernel
theorem dX0_keep_8 : decode cX0_keep 8 = .ok (.iload_n 1, 1) := by decide +kernel
theorem dX0_keep_9 : decode cX0_keep 9 = .ok (.iastore, 1) := by decide +kernel
theorem dX0_keep_10 : decode cX0_keep 10 = .ok (.aload_n 0, 1) := by decide +kernel
theorem dX0_keep_11 : decode cX0_keep 11 = .ok (.getfield 15, 3) := by decide +kernel
theorem dX0_keep_14 : decode cX0_keep 14 = .ok (.aload_n 0, 1) := by decide +kernel
theorem dX0_keep_15 : decode cX0_keep 15 = .ok (.getfield 21, 3) := by decide +kernel
theorem dX0_keep_18 : decode cX0_keep 18 = .ok (.iload_n 2, 1) := by decide +kernel
theorem dX0_keep_19 : decode cX0_keep 19 = .ok (.iastore, 1) := by decide +kernel
theorem dX0_keep_20 : decode cX0_keep 20 = .ok (.aload_n 0, 1) := by decide +kernel
theorem dX0_keep_21 : decode cX0_keep 21 = .ok (.getfield 18, 3) := by decide +kernel
theorem dX0_keep_24 : decode cX0_keep 24 = .ok (.aload_n 0, 1) := by decide +kernel
theorem dX0_keep_25 : decode cX0_keep 25 = .ok (.getfield 21, 3) := by decide +kernel
theorem dX0_keep_28 : decode cX0_keep 28 = .ok (.iload_n 3, 1) := by decide +kernel
theorem dX0_keep_29 : decode cX0_keep 29 = .ok (.iastore, 1) := by decide +kernel
theorem dX0_keep_30 : decode cX0_keep 30 = .ok (.aload_n 0, 1) := by decide +kernel
theorem dX0_keep_31 : decode cX0_keep 31 = .ok (.aload_n 0, 1) := by decide +kernel
theorem dX0_keep_32 : decode cX0_keep 32 = .ok (.getfield 21, 3) := by decide +kernel
theorem dX0_keep_35 : decode cX0_keep 35 = .ok (.iconst 1, 1) := by decide +kernel
theorem dX0_keep_36 : decode cX0_keep 36 = .ok (.iadd, 1) := by decide +kernel
theorem dX0_keep_37 : decode cX0_keep 37 = .ok (.bipush 24, 2) := by decide +kernel
theorem dX0_keep_39 : decode cX0_keep 39 = .ok (.irem, 1) := by decide +kernel
theorem dX0_keep_40 : decode cX0_keep 40 = .ok (.putfield 21, 3) := by decide +kernel
theorem dX0_keep_43 : decode cX0_keep 43 = .ok (.aload_n 0, 1) := by decide +kernel
theorem dX0_keep_44 : decode cX0_keep 44 = .ok (.aload_n 0, 1) := by decide +kernel
theorem dX0_keep_45 : decode cX0_keep 45 = .ok (.getfield 25, 3) := by decide +kernel
theorem dX0_keep_48 : decode cX0_keep 48 = .ok (.iconst 1, 1) := by decide +kernel
theorem dX0_keep_49 : decode cX0_keep 49 = .ok (.iadd, 1) := by decide +kernel
theorem dX0_keep_50 : decode cX0_keep 50 = .ok (.bipush 24, 2) := by decide +kernel
theorem dX0_keep_52 : decode cX0_keep 52 = .ok (.invokestatic 28, 3) := by decide +kernel
theorem dX0_keep_55 : decode cX0_keep 55 = .ok (.putfield 25, 3) := by decide +kernel
theorem dX0_keep_58 : decode cX0_keep 58 = .ok (.return_, 1) := by decide +kernel
theorem dX0_takeBack_0 : decode cX0_takeBack 0 = .ok (.aload_n 0, 1) := by decide +kernel
theorem dX0_takeBack_1 : decode cX0_takeBack 1 = .ok (.aload_n 0, 1) := by decide +kernel
theorem dX0_takeBack_2 : decode cX0_takeBack 2 = .ok (.getfield 21, 3) := by decide +kernel
theorem dX0_takeBack_5 : decode cX0_takeBack 5 = .ok (.bipush 24, 2) := by decide +kernel
theorem dX0_takeBack_7 : decode cX0_takeBack 7 = .ok (.iadd, 1) := by decide +kernel
theorem dX0_takeBack_8 : decode cX0_takeBack 8 = .ok (.iconst 1, 1) := by decide +kernel
theorem dX0_takeBack_9 : decode cX0_takeBack 9 = .ok (.isub, 1) := by decide +kernel
theorem dX0_takeBack_10 : decode cX0_takeBack 10 = .ok (.bipush 24, 2) := by decide +kernel
theorem dX0_takeBack_12 : decode cX0_takeBack 12 = .ok (.irem, 1) := by decide +kernel
theorem dX0_takeBack_13 : decode cX0_takeBack 13 = .ok (.putfield 21, 3) := by decide +kernel
theorem dX0_takeBack_16 : decode cX0_takeBack 16 = .ok (.aload_n 0, 1) := by decide +kernel
theorem dX0_takeBack_17 : decode cX0_takeBack 17 = .ok (.dup, 1) := by decide +kernel
theorem dX0_takeBack_18 : decode cX0_takeBack 18 = .ok (.getfield 25, 3) := by decide +kernel
theorem dX0_takeBack_21 : decode cX0_takeBack 21 = .ok (.iconst 1, 1) := by decide +kernel
theorem dX0_takeBack_22 : decode cX0_takeBack 22 = .ok (.isub, 1) := by decide +kernel
theorem dX0_takeBack_23 : decode cX0_takeBack 23 = .ok (.putfield 25, 3) := by decide +kernel
theorem dX0_takeBack_26 : decode cX0_takeBack 26 = .ok (.aload_n 0, 1) := by decide +kernel
theorem dX0_takeBack_27 : decode cX0_takeBack 27 = .ok (.getfield 21, 3) := by decide +kernel
theorem dX0_takeBack_30 : decode cX0_takeBack 30 = .ok (.ireturn, 1) := by decide +kernel
theorem dX0_forget_0 : decode cX0_forget 0 = .ok (.aload_n 0, 1) := by decide +kernel
theorem dX0_forget_1 : decode cX0_forget 1 = .ok (.iconst 0, 1) := by decide +kernel
theorem dX0_forget_2 : decode cX0_forget 2 = .ok (.putfield 25, 3) := by decide +kernel
theorem dX0_forget_5 : decode cX0_forget 5 = .ok (.return_, 1) := by decide +kernel
theorem dX1_init_0 : decode cX1_init 0 = .ok (.aload_n 0, 1) := by decide +kernel
theorem dX1_init_1 : decode cX1_init 1 = .ok (.invokespecial 3, 3) := by decide +kernel
theorem dX1_init_4 : decode cX1_init 4 = .ok (.aload_n 0, 1) := by decide +kernel
theorem dX1_init_5 : decode cX1_init 5 = .ok (.bipush 6, 2) := by decide +kernel
theorem dX1_init_7 : decode cX1_init 7 = .ok (.newarray .int, 2) := by decide +kernel
theorem dX1_init_9 : decode cX1_init 9 = .ok (.putfield 9, 3) := by decide +kernel
theorem dX1_init_12 : decode cX1_init 12 = .ok (.aload_n 0, 1) := by decide +kernel
theorem dX1_init_13 : decode cX1_init 13 = .ok (.bipush 16, 2) := by decide +kernel
theorem dX1_init_15 : decode cX1_init 15 = .ok (.newarray .int, 2) := by decide +kernel
theorem dX1_init_17 : decode cX1_init 17 = .ok (.putfield 15, 3) := by decide +kernel
theorem dX1_init_20 : decode cX1_init 20 = .ok (.aload_n 0, 1) := by decide +kernel
theorem dX1_init_21 : decode cX1_init 21 = .ok (.bipush 16, 2) := by decide +kernel
theorem dX1_init_23 : decode cX1_init 23 = .ok (.newarray .int, 2) := by decide +kernel
theorem dX1_init_25 : decode cX1_init 25 = .ok (.putfield 18, 3) := by decide +kernel
theorem dX1_init_28 : decode cX1_init 28 = .ok (.aload_n 0, 1) := by decide +kernel
theorem dX1_init_29 : decode cX1_init 29 = .ok (.bipush 16, 2) := by decide +kernel
theorem dX1_init_31 : decode cX1_init 31 = .ok (.newarray .int, 2) := by decide +kernel
theorem dX1_init_33 : decode cX1_init 33 = .ok (.putfield 21, 3) := by decide +kernel
theorem dX1_init_36 : decode cX1_init 36 = .ok (.aload_n 0, 1) := by decide +kernel
theorem dX1_init_37 : decode cX1_init 37 = .ok (.bipush 16, 2) := by decide +kernel
theorem dX1_init_39 : decode cX1_init 39 = .ok (.newarray .int, 2) := by decide +kernel
theorem dX1_init_41 : decode cX1_init 41 = .ok (.putfield 24, 3) := by decide +kernel
theorem dX1_init_44 : decode cX1_init 44 = .ok (.aload_n 0, 1) := by decide +kernel
theorem dX1_init_45 : decode cX1_init 45 = .ok (.bipush 16, 2) := by decide +kernel
theorem dX1_init_47 : decode cX1_init 47 = .ok (.newarray .int, 2) := by decide +kernel
theorem dX1_init_49 : decode cX1_init 49 = .ok (.putfield 27, 3) := by decide +kernel
theorem dX1_init_52 : decode cX1_init 52 = .ok (.aload_n 0, 1) := by decide +kernel
theorem dX1_init_53 : decode cX1_init 53 = .ok (.bipush 17, 2) := by decide +kernel
theorem dX1_init_55 : decode cX1_init 55 = .ok (.newarray .int, 2) := by decide +kernel
theorem dX1_init_57 : decode cX1_init 57 = .ok (.putfield 30, 3) := by decide +kernel
theorem dX1_init_60 : decode cX1_init 60 = .ok (.aload_n 0, 1) := by decide +kernel
theorem dX1_init_61 : decode cX1_init 61 = .ok (.bipush 17, 2) := by decide +kernel
theorem dX1_init_63 : decode cX1_init 63 = .ok (.newarray .int, 2) := by decide +kernel
theorem dX1_init_65 : decode cX1_init 65 = .ok (.putfield 33, 3) := by decide +kernel
theorem dX1_init_68 : decode cX1_init 68 = .ok (.aload_n 0, 1) := by decide +kernel
theorem dX1_init_69 : decode cX1_init 69 = .ok (.bipush 17, 2) := by decide +kernel
theorem dX1_init_71 : decode cX1_init 71 = .ok (.newarray .int, 2) := by decide +kernel
theorem dX1_init_73 : decode cX1_init 73 = .ok (.putfield 36, 3) := by decide +kernel
theorem dX1_init_76 : decode cX1_init 76 = .ok (.aload_n 0, 1) := by decide +kernel
theorem dX1_init_77 : decode cX1_init 77 = .ok (.bipush 17, 2) := by decide +kernel
theorem dX1_init_79 : decode cX1_init 79 = .ok (.newarray .int, 2) := by decide +kernel
theorem dX1_init_81 : decode cX1_init 81 = .ok (.putfield 39, 3) := by decide +kernel
theorem dX1_init_84 : decode cX1_init 84 = .ok (.return_, 1) := by decide +kernel
theorem dX1_seat_0 : decode cX1_seat 0 = .ok (.aload_n 0, 1) := by decide +kernel
theorem dX1_seat_1 : decode cX1_seat 1 = .ok (.aload_n 1, 1) := by decide +kernel
theorem dX1_seat_2 : decode cX1_seat 2 = .ok (.getfield 42, 3) := by decide +kernel
theorem dX1_seat_5 : decode cX1_seat 5 = .ok (.putfield 48, 3) := by decide +kernel
theorem dX1_seat_8 : decode cX1_seat 8 = .ok (.aload_n 0, 1) := by decide +kernel
theorem dX1_seat_9 : decode cX1_seat 9 = .ok (.aload_n 1, 1) := by decide +kernel
theorem dX1_seat_10 : decode cX1_seat 10 = .ok (.getfield 49, 3) := by decide +kernel
theorem dX1_seat_13 : decode cX1_seat 13 = .ok (.putfield 52, 3) := by decide +kernel
theorem dX1_seat_16 : decode cX1_seat 16 = .ok (.iconst 0, 1) := by decide +kernel
theorem dX1_seat_17 : decode cX1_seat 17 = .ok (.istore 4, 2) := by decide +kernel
theorem dX1_seat_19 : decode cX1_seat 19 = .ok (.iload 4, 2) := by decide +kernel
theorem dX1_seat_21 : decode cX1_seat 21 = .ok (.aload_n 0, 1) := by decide +kernel
theorem dX1_seat_22 : decode cX1_seat 22 = .ok (.getfield 52, 3) := by decide +kernel
theorem dX1_seat_25 : decode cX1_seat 25 = .ok (.if_icmp .ge 57, 3) := by decide +kernel
theorem dX1_seat_28 : decode cX1_seat 28 = .ok (.aload_n 1, 1) := by decide +kernel
theorem dX1_seat_29 : decode cX1_seat 29 = .ok (.getfield 53, 3) := by decide +kernel
theorem dX1_seat_32 : decode cX1_seat 32 = .ok (.iload 4, 2) := by decide +kernel
theorem dX1_seat_34 : decode cX1_seat 34 = .ok (.iaload, 1) := by decide +kernel
theorem dX1_seat_35 : decode cX1_seat 35 = .ok (.istore 5, 2) := by decide +kernel
theorem dX1_seat_37 : decode cX1_seat 37 = .ok (.aload_n 0, 1) := by decide +kernel
theorem dX1_seat_38 : decode cX1_seat 38 = .ok (.getfield 15, 3) := by decide +kernel
theorem dX1_seat_41 : decode cX1_seat 41 = .ok (.iload 4, 2) := by decide +kernel
theorem dX1_seat_43 : decode cX1_seat 43 = .ok (.iload 5, 2) := by decide +kernel
theorem dX1_seat_45 : decode cX1_seat 45 = .ok (.iastore, 1) := by decide +kernel
theorem dX1_seat_46 : decode cX1_seat 46 = .ok (.aload_n 0, 1) := by decide +kernel
theorem dX1_seat_47 : decode cX1_seat 47 = .ok (.getfield 18, 3) := by decide +kernel
theorem dX1_seat_50 : decode cX1_seat 50 = .ok (.iload 5, 2) := by decide +kernel
theorem dX1_seat_52 : decode cX1_seat 52 = .ok (.aload_n 1, 1) := by decide +kernel
theorem dX1_seat_53 : decode cX1_seat 53 = .ok (.iload_n 2, 1) := by decide +kernel
theorem dX1_seat_54 : decode cX1_seat 54 = .ok (.iload 5, 2) := by decide +kernel
theorem dX1_seat_56 : decode cX1_seat 56 = .ok (.iconst 0, 1) := by decide +kernel
theorem dX1_seat_57 : decode cX1_seat 57 = .ok (.invokevirtual 54, 3) := by decide +kernel
theorem dX1_seat_60 : decode cX1_seat 60 = .ok (.iastore, 1) := by decide +kernel
theorem dX1_seat_61 : decode cX1_seat 61 = .ok (.aload_n 0, 1) := by decide +kernel
theorem dX1_seat_62 : decode cX1_seat 62 = .ok (.getfield 21, 3) := by decide +kernel
theorem dX1_seat_65 : decode cX1_seat 65 = .ok (.iload 5, 2) := by decide +kernel
theorem dX1_seat_67 : decode cX1_seat 67 = .ok (.aload_n 1, 1) := by decide +kernel
theorem dX1_seat_68 : decode cX1_seat 68 = .ok (.iload_n 3, 1) := by decide +kernel
theorem dX1_seat_69 : decode cX1_seat 69 = .ok (.iload 5, 2) := by decide +kernel
theorem dX1_seat_71 : decode cX1_seat 71 = .ok (.iconst 0, 1) := by decide +kernel
theorem dX1_seat_72 : decode cX1_seat 72 = .ok (.invokevirtual 54, 3) := by decide +kernel
theorem dX1_seat_75 : decode cX1_seat 75 = .ok (.iastore, 1) := by decide +kernel
theorem dX1_seat_76 : decode cX1_seat 76 = .ok (.iinc 4 1, 3) := by decide +kernel
theorem dX1_seat_79 : decode cX1_seat 79 = .ok (.goto (-60), 3) := by decide +kernel
theorem dX1_seat_82 : decode cX1_seat 82 = .ok (.return_, 1) := by decide +kernel
theorem dX1_lineUpFrom_0 : decode cX1_lineUpFrom 0 = .ok (.iconst 0, 1) := by decide +kernel
theorem dX1_lineUpFrom_1 : decode cX1_lineUpFrom 1 = .ok (.istore_n 2, 1) := by decide +kernel
theorem dX1_lineUpFrom_2 : decode cX1_lineUpFrom 2 = .ok (.iload_n 2, 1) := by decide +kernel
theorem dX1_lineUpFrom_3 : decode cX1_lineUpFrom 3 = .ok (.aload_n 0, 1) := by decide +kernel
theorem dX1_lineUpFrom_4 : decode cX1_lineUpFrom 4 = .ok (.getfield 52, 3) := by decide +kernel
theorem dX1_lineUpFrom_7 : decode cX1_lineUpFrom 7 = .ok (.if_icmp .ge 68, 3) := by decide +kernel
theorem dX1_lineUpFrom_10 : decode cX1_lineUpFrom 10 = .ok (.iload_n 1, 1) := by decide +kernel
theorem dX1_lineUpFrom_11 : decode cX1_lineUpFrom 11 = .ok (.iload_n 2, 1) := by decide +kernel
theorem dX1_lineUpFrom_12 : decode cX1_lineUpFrom 12 = .ok (.iadd, 1) := by decide +kernel
theorem dX1_lineUpFrom_13 : decode cX1_lineUpFrom 13 = .ok (.aload_n 0, 1) := by decide +kernel
theorem dX1_lineUpFrom_14 : decode cX1_lineUpFrom 14 = .ok (.getfield 52, 3) := by decide +kernel
theorem dX1_lineUpFrom_17 : decode cX1_lineUpFrom 17 = .ok (.if_icmp .ge 9, 3) := by decide +kernel
theorem dX1_lineUpFrom_20 : decode cX1_lineUpFrom 20 = .ok (.iload_n 1, 1) := by decide +kernel
theorem dX1_lineUpFrom_21 : decode cX1_lineUpFrom 21 = .ok (.iload_n 2, 1) := by decide +kernel
theorem dX1_lineUpFrom_22 : decode cX1_lineUpFrom 22 = .ok (.iadd, 1) := by decide +kernel
theorem dX1_lineUpFrom_23 : decode cX1_lineUpFrom 23 = .ok (.goto 11, 3) := by decide +kernel
theorem dX1_lineUpFrom_26 : decode cX1_lineUpFrom 26 = .ok (.iload_n 1, 1) := by decide +kernel
theorem dX1_lineUpFrom_27 : decode cX1_lineUpFrom 27 = .ok (.iload_n 2, 1) := by decide +kernel
theorem dX1_lineUpFrom_28 : decode cX1_lineUpFrom 28 = .ok (.iadd, 1) := by decide +kernel
theorem dX1_lineUpFrom_29 : decode cX1_lineUpFrom 29 = .ok (.aload_n 0, 1) := by decide +kernel
theorem dX1_lineUpFrom_30 : decode cX1_lineUpFrom 30 = .ok (.getfield 52, 3) := by decide +kernel
theorem dX1_lineUpFrom_33 : decode cX1_lineUpFrom 33 = .ok (.isub, 1) := by decide +kernel
theorem dX1_lineUpFrom_34 : decode cX1_lineUpFrom 34 = .ok (.istore_n 3, 1) := by decide +kernel
theorem dX1_lineUpFrom_35 : decode cX1_lineUpFrom 35 = .ok (.aload_n 0, 1) := by decide +kernel
theorem dX1_lineUpFrom_36 : decode cX1_lineUpFrom 36 = .ok (.getfield 24, 3) := by decide +kernel
theorem dX1_lineUpFrom_39 : decode cX1_lineUpFrom 39 = .ok (.iload_n 2, 1) := by decide +kernel
theorem dX1_lineUpFrom_40 : decode cX1_lineUpFrom 40 = .ok (.aload_n 0, 1) := by decide +kernel
theorem dX1_lineUpFrom_41 : decode cX1_lineUpFrom 41 = .ok (.getfield 18, 3) := by decide +kernel
theorem dX1_lineUpFrom_44 : decode cX1_lineUpFrom 44 = .ok (.aload_n 0, 1) := by decide +kernel
theorem dX1_lineUpFrom_45 : decode cX1_lineUpFrom 45 = .ok (.getfield 15, 3) := by decide +kernel
theorem dX1_lineUpFrom_48 : decode cX1_lineUpFrom 48 = .ok (.iload_n 3, 1) := by decide +kernel
theorem dX1_lineUpFrom_49 : decode cX1_lineUpFrom 49 = .ok (.iaload, 1) := by decide +kernel
theorem dX1_lineUpFrom_50 : decode cX1_lineUpFrom 50 = .ok (.iaload, 1) := by decide +kernel
theorem dX1_lineUpFrom_51 : decode cX1_lineUpFrom 51 = .ok (.iastore, 1) := by decide +kernel
theorem dX1_lineUpFrom_52 : decode cX1_lineUpFrom 52 = .ok (.aload_n 0, 1) := by decide +kernel
theorem dX1_lineUpFrom_53 : decode cX1_lineUpFrom 53 = .ok (.getfield 27, 3) := by decide +kernel
theorem dX1_lineUpFrom_56 : decode cX1_lineUpFrom 56 = .ok (.iload_n 2, 1) := by decide +kernel
theorem dX1_lineUpFrom_57 : decode cX1_lineUpFrom 57 = .ok (.aload_n 0, 1) := by decide +kernel
theorem dX1_lineUpFrom_58 : decode cX1_lineUpFrom 58 = .ok (.getfield 21, 3) := by decide +kernel
theorem dX1_lineUpFrom_61 : decode cX1_lineUpFrom 61 = .ok (.aload_n 0, 1) := by decide +kernel
theorem dX1_lineUpFrom_62 : decode cX1_lineUpFrom 62 = .ok (.getfield 15, 3) := by decide +kernel
theorem dX1_lineUpFrom_65 : decode cX1_lineUpFrom 65 = .ok (.iload_n 3, 1) := by decide +kernel
theorem dX1_lineUpFrom_66 : decode cX1_lineUpFrom 66 = .ok (.iaload, 1) := by decide +kernel
theorem dX1_lineUpFrom_67 : decode cX1_lineUpFrom 67 = .ok (.iaload, 1) := by decide +kernel
theorem dX1_lineUpFrom_68 : decode cX1_lineUpFrom 68 = .ok (.iastore, 1) := by decide +kernel
theorem dX1_lineUpFrom_69 : decode cX1_lineUpFrom 69 = .ok (.iinc 2 1, 3) := by decide +kernel
theorem dX1_lineUpFrom_72 : decode cX1_lineUpFrom 72 = .ok (.goto (-70), 3) := by decide +kernel
theorem dX1_lineUpFrom_75 : decode cX1_lineUpFrom 75 = .ok (.return_, 1) := by decide +kernel
theorem dX1_gainOfA_0 : decode cX1_gainOfA 0 = .ok (.aload_n 0, 1) := by decide +kernel
theorem dX1_gainOfA_1 : decode cX1_gainOfA 1 = .ok (.getfield 30, 3) := by decide +kernel
theorem dX1_gainOfA_4 : decode cX1_gainOfA 4 = .ok (.iconst 0, 1) := by decide +kernel
theorem dX1_gainOfA_5 : decode cX1_gainOfA 5 = .ok (.iaload, 1) := by decide +kernel
theorem dX1_gainOfA_6 : decode cX1_gainOfA 6 = .ok (.ireturn, 1) := by decide +kernel
theorem dX1_gainOfB_0 : decode cX1_gainOfB 0 = .ok (.aload_n 0, 1) := by decide +kernel
theorem dX1_gainOfB_1 : decode cX1_gainOfB 1 = .ok (.getfield 33, 3) := by decide +kernel
theorem dX1_gainOfB_4 : decode cX1_gainOfB 4 = .ok (.iconst 0, 1) := by decide +kernel
theorem dX1_gainOfB_5 : decode cX1_gainOfB 5 = .ok (.iaload, 1) := by decide +kernel
theorem dX1_gainOfB_6 : decode cX1_gainOfB 6 = .ok (.ireturn, 1) := by decide +kernel
theorem dX1_play_0 : decode cX1_play 0 = .ok (.aload_n 0, 1) := by decide +kernel
theorem dX1_play_1 : decode cX1_play 1 = .ok (.ldc 58, 2) := by decide +kernel
theorem dX1_play_3 : decode cX1_play 3 = .ok (.putfield 59, 3) := by decide +kernel
theorem dX1_play_6 : decode cX1_play 6 = .ok (.aload_n 0, 1) := by decide +kernel
theorem dX1_play_7 : decode cX1_play 7 = .ok (.aload_n 0, 1) := by decide +kernel
theorem dX1_play_8 : decode cX1_play 8 = .ok (.getfield 30, 3) := by decide +kernel
theorem dX1_play_11 : decode cX1_play 11 = .ok (.aload_n 0, 1) := by decide +kernel
theorem dX1_play_12 : decode cX1_play 12 = .ok (.getfield 33, 3) := by decide +kernel
theorem dX1_play_15 : decode cX1_play 15 = .ok (.invokevirtual 62, 3) := by decide +kernel
theorem dX1_play_18 : decode cX1_play 18 = .ok (.iconst 1, 1) := by decide +kernel
theorem dX1_play_19 : decode cX1_play 19 = .ok (.istore_n 1, 1) := by decide +kernel
theorem dX1_play_20 : decode cX1_play 20 = .ok (.iload_n 1, 1) := by decide +kernel
theorem dX1_play_21 : decode cX1_play 21 = .ok (.aload_n 0, 1) := by decide +kernel
theorem dX1_play_22 : decode cX1_play 22 = .ok (.getfield 52, 3) := by decide +kernel
theorem dX1_play_25 : decode cX1_play 25 = .ok (.if_icmp .gt 57, 3) := by decide +kernel
theorem dX1_play_28 : decode cX1_play 28 = .ok (.aload_n 0, 1) := by decide +kernel
theorem dX1_play_29 : decode cX1_play 29 = .ok (.aload_n 0, 1) := by decide +kernel
theorem dX1_play_30 : decode cX1_play 30 = .ok (.getfield 52, 3) := by decide +kernel
theorem dX1_play_33 : decode cX1_play 33 = .ok (.iload_n 1, 1) := by decide +kernel
theorem dX1_play_34 : decode cX1_play 34 = .ok (.isub, 1) := by decide +kernel
theorem dX1_play_35 : decode cX1_play 35 = .ok (.invokevirtual 66, 3) := by decide +kernel
theorem dX1_play_38 : decode cX1_play 38 = .ok (.istore_n 2, 1) := by decide +kernel
theorem dX1_play_39 : decode cX1_play 39 = .ok (.iconst 0, 1) := by decide +kernel
theorem dX1_play_40 : decode cX1_play 40 = .ok (.istore_n 3, 1) := by decide +kernel
theorem dX1_play_41 : decode cX1_play 41 = .ok (.iload_n 3, 1) := by decide +kernel
theorem dX1_play_42 : decode cX1_play 42 = .ok (.iload_n 1, 1) := by decide +kernel
theorem dX1_play_43 : decode cX1_play 43 = .ok (.iadd, 1) := by decide +kernel
theorem dX1_play_44 : decode cX1_play 44 = .ok (.aload_n 0, 1) := by decide +kernel
theorem dX1_play_45 : decode cX1_play 45 = .ok (.getfield 52, 3) := by decide +kernel
theorem dX1_play_48 : decode cX1_play 48 = .ok (.if_icmp .gt 28, 3) := by decide +kernel
theorem dX1_play_51 : decode cX1_play 51 = .ok (.aload_n 0, 1) := by decide +kernel
theorem dX1_play_52 : decode cX1_play 52 = .ok (.aload_n 0, 1) := by decide +kernel
theorem dX1_play_53 : decode cX1_play 53 = .ok (.aload_n 0, 1) := by decide +kernel
theorem dX1_play_54 : decode cX1_play 54 = .ok (.getfield 30, 3) := by decide +kernel
theorem dX1_play_57 : decode cX1_play 57 = .ok (.aload_n 0, 1) := by decide +kernel
theorem dX1_play_58 : decode cX1_play 58 = .ok (.getfield 33, 3) := by decide +kernel
theorem dX1_play_61 : decode cX1_play 61 = .ok (.iload_n 3, 1) := by decide +kernel
theorem dX1_play_62 : decode cX1_play 62 = .ok (.iload_n 1, 1) := by decide +kernel
theorem dX1_play_63 : decode cX1_play 63 = .ok (.iload_n 2, 1) := by decide +kernel
theorem dX1_play_64 : decode cX1_play 64 = .ok (.invokevirtual 70, 3) := by decide +kernel
theorem dX1_play_67 : decode cX1_play 67 = .ok (.putfield 59, 3) := by decide +kernel
theorem dX1_play_70 : decode cX1_play 70 = .ok (.iinc 3 1, 3) := by decide +kernel
theorem dX1_play_73 : decode cX1_play 73 = .ok (.goto (-32), 3) := by decide +kernel
theorem dX1_play_76 : decode cX1_play 76 = .ok (.iinc 1 1, 3) := by decide +kernel
theorem dX1_play_79 : decode cX1_play 79 = .ok (.goto (-59), 3) := by decide +kernel
theorem dX1_play_82 : decode cX1_play 82 = .ok (.return_, 1) := by decide +kernel
theorem dX1_playWithPass_0 : decode cX1_playWithPass 0 = .ok (.aload_n 0, 1) := by decide +kernel
theorem dX1_playWithPass_1 : decode cX1_playWithPass 1 = .ok (.aload_n 0, 1) := by decide +kernel
theorem dX1_playWithPass_2 : decode cX1_playWithPass 2 = .ok (.getfield 30, 3) := by decide +kernel
theorem dX1_playWithPass_5 : decode cX1_playWithPass 5 = .ok (.aload_n 0, 1) := by decide +kernel
theorem dX1_playWithPass_6 : decode cX1_playWithPass 6 = .ok (.getfield 33, 3) := by decide +kernel
theorem dX1_playWithPass_9 : decode cX1_playWithPass 9 = .ok (.invokevirtual 62, 3) := by decide +kernel
theorem dX1_playWithPass_12 : decode cX1_playWithPass 12 = .ok (.aload_n 0, 1) := by decide +kernel
theorem dX1_playWithPass_13 : decode cX1_playWithPass 13 = .ok (.aload_n 0, 1) := by decide +kernel
theorem dX1_playWithPass_14 : decode cX1_playWithPass 14 = .ok (.getfield 36, 3) := by decide +kernel
theorem dX1_playWithPass_17 : decode cX1_playWithPass 17 = .ok (.aload_n 0, 1) := by decide +kernel
theorem dX1_playWithPass_18 : decode cX1_playWithPass 18 = .ok (.getfield 39, 3) := by decide +kernel
theorem dX1_playWithPass_21 : decode cX1_playWithPass 21 = .ok (.invokevirtual 62, 3) := by decide +kernel
theorem dX1_playWithPass_24 : decode cX1_playWithPass 24 = .ok (.iconst 1, 1) := by decide +kernel
theorem dX1_playWithPass_25 : decode cX1_playWithPass 25 = .ok (.istore_n 1, 1) := by decide +kernel
theorem dX1_playWithPass_26 : decode cX1_playWithPass 26 = .ok (.iload_n 1, 1) := by decide +kernel
theorem dX1_playWithPass_27 : decode cX1_playWithPass 27 = .ok (.aload_n 0, 1) := by decide +kernel
theorem dX1_playWithPass_28 : decode cX1_playWithPass 28 = .ok (.getfield 52, 3) := by decide +kernel
theorem dX1_playWithPass_31 : decode cX1_playWithPass 31 = .ok (.if_icmp .gt 136, 3) := by decide +kernel
theorem dX1_playWithPass_34 : decode cX1_playWithPass 34 = .ok (.aload_n 0, 1) := by decide +kernel
theorem dX1_playWithPass_35 : decode cX1_playWithPass 35 = .ok (.aload_n 0, 1) := by decide +kernel
theorem dX1_playWithPass_36 : decode cX1_playWithPass 36 = .ok (.getfield 52, 3) := by decide +kernel
theorem dX1_playWithPass_39 : decode cX1_playWithPass 39 = .ok (.iload_n 1, 1) := by decide +kernel
theorem dX1_playWithPass_40 : decode cX1_playWithPass 40 = .ok (.isub, 1) := by decide +kernel
theorem dX1_playWithPass_41 : decode cX1_playWithPass 41 = .ok (.invokevirtual 66, 3) := by decide +kernel
theorem dX1_playWithPass_44 : decode cX1_playWithPass 44 = .ok (.istore_n 2, 1) := by decide +kernel
theorem dX1_playWithPass_45 : decode cX1_playWithPass 45 = .ok (.aload_n 0, 1) := by decide +kernel
theorem dX1_playWithPass_46 : decode cX1_playWithPass 46 = .ok (.aload_n 0, 1) := by decide +kernel
theorem dX1_playWithPass_47 : decode cX1_playWithPass 47 = .ok (.getfield 52, 3) := by decide +kernel
theorem dX1_playWithPass_50 : decode cX1_playWithPass 50 = .ok (.iload_n 1, 1) := by decide +kernel
theorem dX1_playWithPass_51 : decode cX1_playWithPass 51 = .ok (.isub, 1) := by decide +kernel
theorem dX1_playWithPass_52 : decode cX1_playWithPass 52 = .ok (.iconst 1, 1) := by decide +kernel
theorem dX1_playWithPass_53 : decode cX1_playWithPass 53 = .ok (.iadd, 1) := by decide +kernel
theorem dX1_playWithPass_54 : decode cX1_playWithPass 54 = .ok (.invokevirtual 66, 3) := by decide +kernel
theorem dX1_playWithPass_57 : decode cX1_playWithPass 57 = .ok (.istore_n 3, 1) := by decide +kernel
theorem dX1_playWithPass_58 : decode cX1_playWithPass 58 = .ok (.iconst 0, 1) := by decide +kernel
theorem dX1_playWithPass_59 : decode cX1_playWithPass 59 = .ok (.istore 4, 2) := by decide +kernel
theorem dX1_playWithPass_61 : decode cX1_playWithPass 61 = .ok (.iload 4, 2) := by decide +kernel
theorem dX1_playWithPass_63 : decode cX1_playWithPass 63 = .ok (.iload_n 1, 1) := by decide +kernel
theorem dX1_playWithPass_64 : decode cX1_playWithPass 64 = .ok (.iadd, 1) := by decide +kernel
theorem dX1_playWithPass_65 : decode cX1_playWithPass 65 = .ok (.aload_n 0, 1) := by decide +kernel
theorem dX1_playWithPass_66 : decode cX1_playWithPass 66 = .ok (.getfield 52, 3) := by decide +kernel
theorem dX1_playWithPass_69 : decode cX1_playWithPass 69 = .ok (.if_icmp .gt 92, 3) := by decide +kernel
theorem dX1_playWithPass_72 : decode cX1_playWithPass 72 = .ok (.aload_n 0, 1) := by decide +kernel
theorem dX1_playWithPass_73 : decode cX1_playWithPass 73 = .ok (.aload_n 0, 1) := by decide +kernel
theorem dX1_playWithPass_74 : decode cX1_playWithPass 74 = .ok (.getfield 36, 3) := by decide +kernel
theorem dX1_playWithPass_77 : decode cX1_playWithPass 77 = .ok (.aload_n 0, 1) := by decide +kernel
theorem dX1_playWithPass_78 : decode cX1_playWithPass 78 = .ok (.getfield 39, 3) := by decide +kernel
theorem dX1_playWithPass_81 : decode cX1_playWithPass 81 = .ok (.iload 4, 2) := by decide +kernel
theorem dX1_playWithPass_83 : decode cX1_playWithPass 83 = .ok (.iload_n 1, 1) := by decide +kernel
theorem dX1_playWithPass_84 : decode cX1_playWithPass 84 = .ok (.iload_n 3, 1) := by decide +kernel
theorem dX1_playWithPass_85 : decode cX1_playWithPass 85 = .ok (.invokevirtual 70, 3) := by decide +kernel
theorem dX1_playWithPass_88 : decode cX1_playWithPass 88 = .ok (.pop, 1) := by decide +kernel
theorem dX1_playWithPass_89 : decode cX1_playWithPass 89 = .ok (.aload_n 0, 1) := by decide +kernel
theorem dX1_playWithPass_90 : decode cX1_playWithPass 90 = .ok (.aload_n 0, 1) := by decide +kernel
theorem dX1_playWithPass_91 : decode cX1_playWithPass 91 = .ok (.getfield 30, 3) := by decide +kernel
theorem dX1_playWithPass_94 : decode cX1_playWithPass 94 = .ok (.aload_n 0, 1) := by decide +kernel
theorem dX1_playWithPass_95 : decode cX1_playWithPass 95 = .ok (.getfield 33, 3) := by decide +kernel
theorem dX1_playWithPass_98 : decode cX1_playWithPass 98 = .ok (.iload 4, 2) := by decide +kernel
theorem dX1_playWithPass_100 : decode cX1_playWithPass 100 = .ok (.iload_n 1, 1) := by decide +kernel
theorem dX1_playWithPass_101 : decode cX1_playWithPass 101 = .ok (.iload_n 2, 1) := by decide +kernel
theorem dX1_playWithPass_102 : decode cX1_playWithPass 102 = .ok (.invokevirtual 70, 3) := by decide +kernel
theorem dX1_playWithPass_105 : decode cX1_playWithPass 105 = .ok (.pop, 1) := by decide +kernel
theorem dX1_playWithPass_106 : decode cX1_playWithPass 106 = .ok (.iload_n 2, 1) := by decide +kernel
theorem dX1_playWithPass_107 : decode cX1_playWithPass 107 = .ok (.ifCond .eq 48, 3) := by decide +kernel
theorem dX1_playWithPass_110 : decode cX1_playWithPass 110 = .ok (.aload_n 0, 1) := by decide +kernel
theorem dX1_playWithPass_111 : decode cX1_playWithPass 111 = .ok (.getfield 36, 3) := by decide +kernel
theorem dX1_playWithPass_114 : decode cX1_playWithPass 114 = .ok (.iload 4, 2) := by decide +kernel
theorem dX1_playWithPass_116 : decode cX1_playWithPass 116 = .ok (.iaload, 1) := by decide +kernel
theorem dX1_playWithPass_117 : decode cX1_playWithPass 117 = .ok (.aload_n 0, 1) := by decide +kernel
theorem dX1_playWithPass_118 : decode cX1_playWithPass 118 = .ok (.getfield 30, 3) := by decide +kernel
theorem dX1_playWithPass_121 : decode cX1_playWithPass 121 = .ok (.iload 4, 2) := by decide +kernel
theorem dX1_playWithPass_123 : decode cX1_playWithPass 123 = .ok (.iaload, 1) := by decide +kernel
theorem dX1_playWithPass_124 : decode cX1_playWithPass 124 = .ok (.if_icmp .le 31, 3) := by decide +kernel
theorem dX1_playWithPass_127 : decode cX1_playWithPass 127 = .ok (.aload_n 0, 1) := by decide +kernel
theorem dX1_playWithPass_128 : decode cX1_playWithPass 128 = .ok (.getfield 30, 3) := by decide +kernel
theorem dX1_playWithPass_131 : decode cX1_playWithPass 131 = .ok (.iload 4, 2) := by decide +kernel
theorem dX1_playWithPass_133 : decode cX1_playWithPass 133 = .ok (.aload_n 0, 1) := by decide +kernel
theorem dX1_playWithPass_134 : decode cX1_playWithPass 134 = .ok (.getfield 36, 3) := by decide +kernel
theorem dX1_playWithPass_137 : decode cX1_playWithPass 137 = .ok (.iload 4, 2) := by decide +kernel
theorem dX1_playWithPass_139 : decode cX1_playWithPass 139 = .ok (.iaload, 1) := by decide +kernel
theorem dX1_playWithPass_140 : decode cX1_playWithPass 140 = .ok (.iastore, 1) := by decide +kernel
theorem dX1_playWithPass_141 : decode cX1_playWithPass 141 = .ok (.aload_n 0, 1) := by decide +kernel
theorem dX1_playWithPass_142 : decode cX1_playWithPass 142 = .ok (.getfield 33, 3) := by decide +kernel
theorem dX1_playWithPass_145 : decode cX1_playWithPass 145 = .ok (.iload 4, 2) := by decide +kernel
theorem dX1_playWithPass_147 : decode cX1_playWithPass 147 = .ok (.aload_n 0, 1) := by decide +kernel
theorem dX1_playWithPass_148 : decode cX1_playWithPass 148 = .ok (.getfield 39, 3) := by decide +kernel
theorem dX1_playWithPass_151 : decode cX1_playWithPass 151 = .ok (.iload 4, 2) := by decide +kernel
theorem dX1_playWithPass_153 : decode cX1_playWithPass 153 = .ok (.iaload, 1) := by decide +kernel
theorem dX1_playWithPass_154 : decode cX1_playWithPass 154 = .ok (.iastore, 1) := by decide +kernel
theorem dX1_playWithPass_155 : decode cX1_playWithPass 155 = .ok (.iinc 4 1, 3) := by decide +kernel
theorem dX1_playWithPass_158 : decode cX1_playWithPass 158 = .ok (.goto (-97), 3) := by decide +kernel
theorem dX1_playWithPass_161 : decode cX1_playWithPass 161 = .ok (.iinc 1 1, 3) := by decide +kernel
theorem dX1_playWithPass_164 : decode cX1_playWithPass 164 = .ok (.goto (-138), 3) := by decide +kernel
theorem dX1_playWithPass_167 : decode cX1_playWithPass 167 = .ok (.return_, 1) := by decide +kernel
theorem dX1_findLaid_0 : decode cX1_findLaid 0 = .ok (.iconst (-1), 1) := by decide +kernel
theorem dX1_findLaid_1 : decode cX1_findLaid 1 = .ok (.istore_n 1, 1) := by decide +kernel
theorem dX1_findLaid_2 : decode cX1_findLaid 2 = .ok (.aload_n 0, 1) := by decide +kernel
theorem dX1_findLaid_3 : decode cX1_findLaid 3 = .ok (.invokevirtual 74, 3) := by decide +kernel
theorem dX1_findLaid_6 : decode cX1_findLaid 6 = .ok (.iconst 1, 1) := by decide +kernel
theorem dX1_findLaid_7 : decode cX1_findLaid 7 = .ok (.istore_n 2, 1) := by decide +kernel
theorem dX1_findLaid_8 : decode cX1_findLaid 8 = .ok (.iconst 0, 1) := by decide +kernel
theorem dX1_findLaid_9 : decode cX1_findLaid 9 = .ok (.istore_n 3, 1) := by decide +kernel
theorem dX1_findLaid_10 : decode cX1_findLaid 10 = .ok (.iload_n 3, 1) := by decide +kernel
theorem dX1_findLaid_11 : decode cX1_findLaid 11 = .ok (.sipush 720, 3) := by decide +kernel
theorem dX1_findLaid_14 : decode cX1_findLaid 14 = .ok (.if_icmp .ge 61, 3) := by decide +kernel
theorem dX1_findLaid_17 : decode cX1_findLaid 17 = .ok (.iload_n 2, 1) := by decide +kernel
theorem dX1_findLaid_18 : decode cX1_findLaid 18 = .ok (.ifCond .eq 57, 3) := by decide +kernel
theorem dX1_findLaid_21 : decode cX1_findLaid 21 = .ok (.aload_n 0, 1) := by decide +kernel
theorem dX1_findLaid_22 : decode cX1_findLaid 22 = .ok (.iconst 0, 1) := by decide +kernel
theorem dX1_findLaid_23 : decode cX1_findLaid 23 = .ok (.invokevirtual 77, 3) := by decide +kernel
theorem dX1_findLaid_26 : decode cX1_findLaid 26 = .ok (.aload_n 0, 1) := by decide +kernel
theorem dX1_findLaid_27 : decode cX1_findLaid 27 = .ok (.invokevirtual 81, 3) := by decide +kernel
theorem dX1_findLaid_30 : decode cX1_findLaid 30 = .ok (.aload_n 0, 1) := by decide +kernel
theorem dX1_findLaid_31 : decode cX1_findLaid 31 = .ok (.getfield 30, 3) := by decide +kernel
theorem dX1_findLaid_34 : decode cX1_findLaid 34 = .ok (.iconst 0, 1) := by decide +kernel
theorem dX1_findLaid_35 : decode cX1_findLaid 35 = .ok (.iaload, 1) := by decide +kernel
theorem dX1_findLaid_36 : decode cX1_findLaid 36 = .ok (.iload_n 1, 1) := by decide +kernel
theorem dX1_findLaid_37 : decode cX1_findLaid 37 = .ok (.if_icmp .le 27, 3) := by decide +kernel
theorem dX1_findLaid_40 : decode cX1_findLaid 40 = .ok (.aload_n 0, 1) := by decide +kernel
theorem dX1_findLaid_41 : decode cX1_findLaid 41 = .ok (.getfield 30, 3) := by decide +kernel
theorem dX1_findLaid_44 : decode cX1_findLaid 44 = .ok (.iconst 0, 1) := by decide +kernel
theorem dX1_findLaid_45 : decode cX1_findLaid 45 = .ok (.iaload, 1) := by decide +kernel
theorem dX1_findLaid_46 : decode cX1_findLaid 46 = .ok (.istore_n 1, 1) := by decide +kernel
theorem dX1_findLaid_47 : decode cX1_findLaid 47 = .ok (.aload_n 0, 1) := by decide +kernel
theorem dX1_findLaid_48 : decode cX1_findLaid 48 = .ok (.getfield 15, 3) := by decide +kernel
theorem dX1_findLaid_51 : decode cX1_findLaid 51 = .ok (.iconst 0, 1) := by decide +kernel
theorem dX1_findLaid_52 : decode cX1_findLaid 52 = .ok (.aload_n 0, 1) := by decide +kernel
theorem dX1_findLaid_53 : decode cX1_findLaid 53 = .ok (.getfield 9, 3) := by decide +kernel
theorem dX1_findLaid_56 : decode cX1_findLaid 56 = .ok (.iconst 0, 1) := by decide +kernel
theorem dX1_findLaid_57 : decode cX1_findLaid 57 = .ok (.aload_n 0, 1) := by decide +kernel
theorem dX1_findLaid_58 : decode cX1_findLaid 58 = .ok (.getfield 52, 3) := by decide +kernel
theorem dX1_findLaid_61 : decode cX1_findLaid 61 = .ok (.invokestatic 84, 3) := by decide +kernel
theorem dX1_findLaid_64 : decode cX1_findLaid 64 = .ok (.aload_n 0, 1) := by decide +kernel
theorem dX1_findLaid_65 : decode cX1_findLaid 65 = .ok (.invokevirtual 90, 3) := by decide +kernel
theorem dX1_findLaid_68 : decode cX1_findLaid 68 = .ok (.istore_n 2, 1) := by decide +kernel
theorem dX1_findLaid_69 : decode cX1_findLaid 69 = .ok (.iinc 3 1, 3) := by decide +kernel
theorem dX1_findLaid_72 : decode cX1_findLaid 72 = .ok (.goto (-62), 3) := by decide +kernel
theorem dX1_findLaid_75 : decode cX1_findLaid 75 = .ok (.iload_n 1, 1) := by decide +kernel
theorem dX1_findLaid_76 : decode cX1_findLaid 76 = .ok (.ireturn, 1) := by decide +kernel
theorem dX1_findCut_0 : decode cX1_findCut 0 = .ok (.iconst (-1), 1) := by decide +kernel
theorem dX1_findCut_1 : decode cX1_findCut 1 = .ok (.istore_n 1, 1) := by decide +kernel
theorem dX1_findCut_2 : decode cX1_findCut 2 = .ok (.iconst 0, 1) := by decide +kernel
theorem dX1_findCut_3 : decode cX1_findCut 3 = .ok (.istore_n 2, 1) := by decide +kernel
theorem dX1_findCut_4 : decode cX1_findCut 4 = .ok (.iload_n 2, 1) := by decide +kernel
theorem dX1_findCut_5 : decode cX1_findCut 5 = .ok (.aload_n 0, 1) := by decide +kernel
theorem dX1_findCut_6 : decode cX1_findCut 6 = .ok (.getfield 52, 3) := by decide +kernel
theorem dX1_findCut_9 : decode cX1_findCut 9 = .ok (.if_icmp .ge 40, 3) := by decide +kernel
theorem dX1_findCut_12 : decode cX1_findCut 12 = .ok (.aload_n 0, 1) := by decide +kernel
theorem dX1_findCut_13 : decode cX1_findCut 13 = .ok (.iload_n 2, 1) := by decide +kernel
theorem dX1_findCut_14 : decode cX1_findCut 14 = .ok (.invokevirtual 77, 3) := by decide +kernel
theorem dX1_findCut_17 : decode cX1_findCut 17 = .ok (.aload_n 0, 1) := by decide +kernel
theorem dX1_findCut_18 : decode cX1_findCut 18 = .ok (.invokevirtual 81, 3) := by decide +kernel
theorem dX1_findCut_21 : decode cX1_findCut 21 = .ok (.aload_n 0, 1) := by decide +kernel
theorem dX1_findCut_22 : decode cX1_findCut 22 = .ok (.getfield 30, 3) := by decide +kernel
theorem dX1_findCut_25 : decode cX1_findCut 25 = .ok (.iconst 0, 1) := by decide +kernel
theorem dX1_findCut_26 : decode cX1_findCut 26 = .ok (.iaload, 1) := by decide +kernel
theorem dX1_findCut_27 : decode cX1_findCut 27 = .ok (.iload_n 1, 1) := by decide +kernel
theorem dX1_findCut_28 : decode cX1_findCut 28 = .ok (.if_icmp .le 15, 3) := by decide +kernel
theorem dX1_findCut_31 : decode cX1_findCut 31 = .ok (.aload_n 0, 1) := by decide +kernel
theorem dX1_findCut_32 : decode cX1_findCut 32 = .ok (.getfield 30, 3) := by decide +kernel
theorem dX1_findCut_35 : decode cX1_findCut 35 = .ok (.iconst 0, 1) := by decide +kernel
theorem dX1_findCut_36 : decode cX1_findCut 36 = .ok (.iaload, 1) := by decide +kernel
theorem dX1_findCut_37 : decode cX1_findCut 37 = .ok (.istore_n 1, 1) := by decide +kernel
theorem dX1_findCut_38 : decode cX1_findCut 38 = .ok (.aload_n 0, 1) := by decide +kernel
theorem dX1_findCut_39 : decode cX1_findCut 39 = .ok (.iload_n 2, 1) := by decide +kernel
theorem dX1_findCut_40 : decode cX1_findCut 40 = .ok (.putfield 94, 3) := by decide +kernel
theorem dX1_findCut_43 : decode cX1_findCut 43 = .ok (.iinc 2 1, 3) := by decide +kernel
theorem dX1_findCut_46 : decode cX1_findCut 46 = .ok (.goto (-42), 3) := by decide +kernel
theorem dX1_findCut_49 : decode cX1_findCut 49 = .ok (.iload_n 1, 1) := by decide +kernel
theorem dX1_findCut_50 : decode cX1_findCut 50 = .ok (.ireturn, 1) := by decide +kernel
theorem dX1_clearGains_0 : decode cX1_clearGains 0 = .ok (.iconst 0, 1) := by decide +kernel
theorem dX1_clearGains_1 : decode cX1_clearGains 1 = .ok (.istore_n 3, 1) := by decide +kernel
theorem dX1_clearGains_2 : decode cX1_clearGains 2 = .ok (.iload_n 3, 1) := by decide +kernel
theorem dX1_clearGains_3 : decode cX1_clearGains 3 = .ok (.aload_n 0, 1) := by decide +kernel
theorem dX1_clearGains_4 : decode cX1_clearGains 4 = .ok (.getfield 52, 3) := by decide +kernel
theorem dX1_clearGains_7 : decode cX1_clearGains 7 = .ok (.if_icmp .gt 17, 3) := by decide +kernel
theorem dX1_clearGains_10 : decode cX1_clearGains 10 = .ok (.aload_n 1, 1) := by decide +kernel
theorem dX1_clearGains_11 : decode cX1_clearGains 11 = .ok (.iload_n 3, 1) := by decide +kernel
theorem dX1_clearGains_12 : decode cX1_clearGains 12 = .ok (.iconst 0, 1) := by decide +kernel
theorem dX1_clearGains_13 : decode cX1_clearGains 13 = .ok (.iastore, 1) := by decide +kernel
theorem dX1_clearGains_14 : decode cX1_clearGains 14 = .ok (.aload_n 2, 1) := by decide +kernel
theorem dX1_clearGains_15 : decode cX1_clearGains 15 = .ok (.iload_n 3, 1) := by decide +kernel
theorem dX1_clearGains_16 : decode cX1_clearGains 16 = .ok (.iconst 0, 1) := by decide +kernel
theorem dX1_clearGains_17 : decode cX1_clearGains 17 = .ok (.iastore, 1) := by decide +kernel
theorem dX1_clearGains_18 : decode cX1_clearGains 18 = .ok (.iinc 3 1, 3) := by decide +kernel
theorem dX1_clearGains_21 : decode cX1_clearGains 21 = .ok (.goto (-19), 3) := by decide +kernel
theorem dX1_clearGains_24 : decode cX1_clearGains 24 = .ok (.return_, 1) := by decide +kernel
theorem dX1_isTurnOfA_0 : decode cX1_isTurnOfA 0 = .ok (.aload_n 0, 1) := by decide +kernel
theorem dX1_isTurnOfA_1 : decode cX1_isTurnOfA 1 = .ok (.getfield 48, 3) := by decide +kernel
theorem dX1_isTurnOfA_4 : decode cX1_isTurnOfA 4 = .ok (.ifCond .ne 7, 3) := by decide +kernel
theorem dX1_isTurnOfA_7 : decode cX1_isTurnOfA 7 = .ok (.iload_n 1, 1) := by decide +kernel
theorem dX1_isTurnOfA_8 : decode cX1_isTurnOfA 8 = .ok (.goto 8, 3) := by decide +kernel
theorem dX1_isTurnOfA_11 : decode cX1_isTurnOfA 11 = .ok (.iload_n 1, 1) := by decide +kernel
theorem dX1_isTurnOfA_12 : decode cX1_isTurnOfA 12 = .ok (.iconst 1, 1) := by decide +kernel
theorem dX1_isTurnOfA_13 : decode cX1_isTurnOfA 13 = .ok (.iadd, 1) := by decide +kernel
theorem dX1_isTurnOfA_14 : decode cX1_isTurnOfA 14 = .ok (.iconst 2, 1) := by decide +kernel
theorem dX1_isTurnOfA_15 : decode cX1_isTurnOfA 15 = .ok (.idiv, 1) := by decide +kernel
theorem dX1_isTurnOfA_16 : decode cX1_isTurnOfA 16 = .ok (.istore_n 2, 1) := by decide +kernel
theorem dX1_isTurnOfA_17 : decode cX1_isTurnOfA 17 = .ok (.iload_n 2, 1) := by decide +kernel
theorem dX1_isTurnOfA_18 : decode cX1_isTurnOfA 18 = .ok (.iconst 2, 1) := by decide +kernel
theorem dX1_isTurnOfA_19 : decode cX1_isTurnOfA 19 = .ok (.irem, 1) := by decide +kernel
theorem dX1_isTurnOfA_20 : decode cX1_isTurnOfA 20 = .ok (.ifCond .ne 7, 3) := by decide +kernel
theorem dX1_isTurnOfA_23 : decode cX1_isTurnOfA 23 = .ok (.iconst 1, 1) := by decide +kernel
theorem dX1_isTurnOfA_24 : decode cX1_isTurnOfA 24 = .ok (.goto 4, 3) := by decide +kernel
theorem dX1_isTurnOfA_27 : decode cX1_isTurnOfA 27 = .ok (.iconst 0, 1) := by decide +kernel
theorem dX1_isTurnOfA_28 : decode cX1_isTurnOfA 28 = .ok (.ireturn, 1) := by decide +kernel
theorem dX1_takeEnd_0 : decode cX1_takeEnd 0 = .ok (.iload 5, 2) := by decide +kernel
theorem dX1_takeEnd_2 : decode cX1_takeEnd 2 = .ok (.ifCond .eq 7, 3) := by decide +kernel
theorem dX1_takeEnd_5 : decode cX1_takeEnd 5 = .ok (.aload_n 1, 1) := by decide +kernel
theorem dX1_takeEnd_6 : decode cX1_takeEnd 6 = .ok (.goto 4, 3) := by decide +kernel
theorem dX1_takeEnd_9 : decode cX1_takeEnd 9 = .ok (.aload_n 2, 1) := by decide +kernel
theorem dX1_takeEnd_10 : decode cX1_takeEnd 10 = .ok (.astore 6, 2) := by decide +kernel
theorem dX1_takeEnd_12 : decode cX1_takeEnd 12 = .ok (.iload 5, 2) := by decide +kernel
theorem dX1_takeEnd_14 : decode cX1_takeEnd 14 = .ok (.ifCond .eq 7, 3) := by decide +kernel
theorem dX1_takeEnd_17 : decode cX1_takeEnd 17 = .ok (.aload_n 2, 1) := by decide +kernel
theorem dX1_takeEnd_18 : decode cX1_takeEnd 18 = .ok (.goto 4, 3) := by decide +kernel
theorem dX1_takeEnd_21 : decode cX1_takeEnd 21 = .ok (.aload_n 1, 1) := by decide +kernel
theorem dX1_takeEnd_22 : decode cX1_takeEnd 22 = .ok (.astore 7, 2) := by decide +kernel
theorem dX1_takeEnd_24 : decode cX1_takeEnd 24 = .ok (.iload 5, 2) := by decide +kernel
theorem dX1_takeEnd_26 : decode cX1_takeEnd 26 = .ok (.ifCond .eq 10, 3) := by decide +kernel
theorem dX1_takeEnd_29 : decode cX1_takeEnd 29 = .ok (.aload_n 0, 1) := by decide +kernel
theorem dX1_takeEnd_30 : decode cX1_takeEnd 30 = .ok (.getfield 24, 3) := by decide +kernel
theorem dX1_takeEnd_33 : decode cX1_takeEnd 33 = .ok (.goto 7, 3) := by decide +kernel
theorem dX1_takeEnd_36 : decode cX1_takeEnd 36 = .ok (.aload_n 0, 1) := by decide +kernel
theorem dX1_takeEnd_37 : decode cX1_takeEnd 37 = .ok (.getfield 27, 3) := by decide +kernel
theorem dX1_takeEnd_40 : decode cX1_takeEnd 40 = .ok (.astore 8, 2) := by decide +kernel
theorem dX1_takeEnd_42 : decode cX1_takeEnd 42 = .ok (.aload 8, 2) := by decide +kernel
theorem dX1_takeEnd_44 : decode cX1_takeEnd 44 = .ok (.iload_n 3, 1) := by decide +kernel
theorem dX1_takeEnd_45 : decode cX1_takeEnd 45 = .ok (.iaload, 1) := by decide +kernel
theorem dX1_takeEnd_46 : decode cX1_takeEnd 46 = .ok (.aload 6, 2) := by decide +kernel
theorem dX1_takeEnd_48 : decode cX1_takeEnd 48 = .ok (.iload_n 3, 1) := by decide +kernel
theorem dX1_takeEnd_49 : decode cX1_takeEnd 49 = .ok (.iconst 1, 1) := by decide +kernel
theorem dX1_takeEnd_50 : decode cX1_takeEnd 50 = .ok (.iadd, 1) := by decide +kernel
theorem dX1_takeEnd_51 : decode cX1_takeEnd 51 = .ok (.iaload, 1) := by decide +kernel
theorem dX1_takeEnd_52 : decode cX1_takeEnd 52 = .ok (.iadd, 1) := by decide +kernel
theorem dX1_takeEnd_53 : decode cX1_takeEnd 53 = .ok (.istore 9, 2) := by decide +kernel
theorem dX1_takeEnd_55 : decode cX1_takeEnd 55 = .ok (.aload 8, 2) := by decide +kernel
theorem dX1_takeEnd_57 : decode cX1_takeEnd 57 = .ok (.iload_n 3, 1) := by decide +kernel
theorem dX1_takeEnd_58 : decode cX1_takeEnd 58 = .ok (.iload 4, 2) := by decide +kernel
theorem dX1_takeEnd_60 : decode cX1_takeEnd 60 = .ok (.iadd, 1) := by decide +kernel
theorem dX1_takeEnd_61 : decode cX1_takeEnd 61 = .ok (.iconst 1, 1) := by decide +kernel
theorem dX1_takeEnd_62 : decode cX1_takeEnd 62 = .ok (.isub, 1) := by decide +kernel
theorem dX1_takeEnd_63 : decode cX1_takeEnd 63 = .ok (.iaload, 1) := by decide +kernel
theorem dX1_takeEnd_64 : decode cX1_takeEnd 64 = .ok (.aload 6, 2) := by decide +kernel
theorem dX1_takeEnd_66 : decode cX1_takeEnd 66 = .ok (.iload_n 3, 1) := by decide +kernel
theorem dX1_takeEnd_67 : decode cX1_takeEnd 67 = .ok (.iaload, 1) := by decide +kernel
theorem dX1_takeEnd_68 : decode cX1_takeEnd 68 = .ok (.iadd, 1) := by decide +kernel
theorem dX1_takeEnd_69 : decode cX1_takeEnd 69 = .ok (.istore 10, 2) := by decide +kernel
theorem dX1_takeEnd_71 : decode cX1_takeEnd 71 = .ok (.iload 10, 2) := by decide +kernel
theorem dX1_takeEnd_73 : decode cX1_takeEnd 73 = .ok (.iload 9, 2) := by decide +kernel
theorem dX1_takeEnd_75 : decode cX1_takeEnd 75 = .ok (.if_icmp .le 11, 3) := by decide +kernel
theorem dX1_takeEnd_78 : decode cX1_takeEnd 78 = .ok (.aload 6, 2) := by decide +kernel
theorem dX1_takeEnd_80 : decode cX1_takeEnd 80 = .ok (.iload_n 3, 1) := by decide +kernel
theorem dX1_takeEnd_81 : decode cX1_takeEnd 81 = .ok (.iload 10, 2) := by decide +kernel
theorem dX1_takeEnd_83 : decode cX1_takeEnd 83 = .ok (.iastore, 1) := by decide +kernel
theorem dX1_takeEnd_84 : decode cX1_takeEnd 84 = .ok (.iconst 1, 1) := by decide +kernel
theorem dX1_takeEnd_85 : decode cX1_takeEnd 85 = .ok (.ireturn, 1) := by decide +kernel
theorem dX1_takeEnd_86 : decode cX1_takeEnd 86 = .ok (.aload 6, 2) := by decide +kernel
theorem dX1_takeEnd_88 : decode cX1_takeEnd 88 = .ok (.iload_n 3, 1) := by decide +kernel
theorem dX1_takeEnd_89 : decode cX1_takeEnd 89 = .ok (.iload 9, 2) := by decide +kernel
theorem dX1_takeEnd_91 : decode cX1_takeEnd 91 = .ok (.iastore, 1) := by decide +kernel
theorem dX1_takeEnd_92 : decode cX1_takeEnd 92 = .ok (.aload 7, 2) := by decide +kernel
theorem dX1_takeEnd_94 : decode cX1_takeEnd 94 = .ok (.iload_n 3, 1) := by decide +kernel
theorem dX1_takeEnd_95 : decode cX1_takeEnd 95 = .ok (.aload 7, 2) := by decide +kernel
theorem dX1_takeEnd_97 : decode cX1_takeEnd 97 = .ok (.iload_n 3, 1) := by decide +kernel
theorem dX1_takeEnd_98 : decode cX1_takeEnd 98 = .ok (.iconst 1, 1) := by decide +kernel
theorem dX1_takeEnd_99 : decode cX1_takeEnd 99 = .ok (.iadd, 1) := by decide +kernel
theorem dX1_takeEnd_100 : decode cX1_takeEnd 100 = .ok (.iaload, 1) := by decide +kernel
theorem dX1_takeEnd_101 : decode cX1_takeEnd 101 = .ok (.iastore, 1) := by decide +kernel
theorem dX1_takeEnd_102 : decode cX1_takeEnd 102 = .ok (.iconst 0, 1) := by decide +kernel
theorem dX1_takeEnd_103 : decode cX1_takeEnd 103 = .ok (.ireturn, 1) := by decide +kernel
theorem dX1_sortHeap_0 : decode cX1_sortHeap 0 = .ok (.iconst 1, 1) := by decide +kernel
theorem dX1_sortHeap_1 : decode cX1_sortHeap 1 = .ok (.istore_n 1, 1) := by decide +kernel
theorem dX1_sortHeap_2 : decode cX1_sortHeap 2 = .ok (.iload_n 1, 1) := by decide +kernel
theorem dX1_sortHeap_3 : decode cX1_sortHeap 3 = .ok (.aload_n 0, 1) := by decide +kernel
theorem dX1_sortHeap_4 : decode cX1_sortHeap 4 = .ok (.getfield 52, 3) := by decide +kernel
theorem dX1_sortHeap_7 : decode cX1_sortHeap 7 = .ok (.if_icmp .ge 46, 3) := by decide +kernel
theorem dX1_sortHeap_10 : decode cX1_sortHeap 10 = .ok (.iload_n 1, 1) := by decide +kernel
theorem dX1_sortHeap_11 : decode cX1_sortHeap 11 = .ok (.istore_n 2, 1) := by decide +kernel
theorem dX1_sortHeap_12 : decode cX1_sortHeap 12 = .ok (.iload_n 2, 1) := by decide +kernel
theorem dX1_sortHeap_13 : decode cX1_sortHeap 13 = .ok (.ifCond .le 34, 3) := by decide +kernel
theorem dX1_sortHeap_16 : decode cX1_sortHeap 16 = .ok (.aload_n 0, 1) := by decide +kernel
theorem dX1_sortHeap_17 : decode cX1_sortHeap 17 = .ok (.getfield 15, 3) := by decide +kernel
theorem dX1_sortHeap_20 : decode cX1_sortHeap 20 = .ok (.iload_n 2, 1) := by decide +kernel
theorem dX1_sortHeap_21 : decode cX1_sortHeap 21 = .ok (.iconst 1, 1) := by decide +kernel
theorem dX1_sortHeap_22 : decode cX1_sortHeap 22 = .ok (.isub, 1) := by decide +kernel
theorem dX1_sortHeap_23 : decode cX1_sortHeap 23 = .ok (.iaload, 1) := by decide +kernel
theorem dX1_sortHeap_24 : decode cX1_sortHeap 24 = .ok (.aload_n 0, 1) := by decide +kernel
theorem dX1_sortHeap_25 : decode cX1_sortHeap 25 = .ok (.getfield 15, 3) := by decide +kernel
theorem dX1_sortHeap_28 : decode cX1_sortHeap 28 = .ok (.iload_n 2, 1) := by decide +kernel
theorem dX1_sortHeap_29 : decode cX1_sortHeap 29 = .ok (.iaload, 1) := by decide +kernel
theorem dX1_sortHeap_30 : decode cX1_sortHeap 30 = .ok (.if_icmp .le 17, 3) := by decide +kernel
theorem dX1_sortHeap_33 : decode cX1_sortHeap 33 = .ok (.aload_n 0, 1) := by decide +kernel
theorem dX1_sortHeap_34 : decode cX1_sortHeap 34 = .ok (.iload_n 2, 1) := by decide +kernel
theorem dX1_sortHeap_35 : decode cX1_sortHeap 35 = .ok (.iconst 1, 1) := by decide +kernel
theorem dX1_sortHeap_36 : decode cX1_sortHeap 36 = .ok (.isub, 1) := by decide +kernel
theorem dX1_sortHeap_37 : decode cX1_sortHeap 37 = .ok (.iload_n 2, 1) := by decide +kernel
theorem dX1_sortHeap_38 : decode cX1_sortHeap 38 = .ok (.invokevirtual 97, 3) := by decide +kernel
theorem dX1_sortHeap_41 : decode cX1_sortHeap 41 = .ok (.iinc 2 (-1), 3) := by decide +kernel
theorem dX1_sortHeap_44 : decode cX1_sortHeap 44 = .ok (.goto (-32), 3) := by decide +kernel
theorem dX1_sortHeap_47 : decode cX1_sortHeap 47 = .ok (.iinc 1 1, 3) := by decide +kernel
theorem dX1_sortHeap_50 : decode cX1_sortHeap 50 = .ok (.goto (-48), 3) := by decide +kernel
theorem dX1_sortHeap_53 : decode cX1_sortHeap 53 = .ok (.return_, 1) := by decide +kernel
theorem dX1_goToNextOrder_0 : decode cX1_goToNextOrder 0 = .ok (.aload_n 0, 1) := by decide +kernel
theorem dX1_goToNextOrder_1 : decode cX1_goToNextOrder 1 = .ok (.getfield 52, 3) := by decide +kernel
theorem dX1_goToNextOrder_4 : decode cX1_goToNextOrder 4 = .ok (.iconst 2, 1) := by decide +kernel
theorem dX1_goToNextOrder_5 : decode cX1_goToNextOrder 5 = .ok (.isub, 1) := by decide +kernel
theorem dX1_goToNextOrder_6 : decode cX1_goToNextOrder 6 = .ok (.istore_n 1, 1) := by decide +kernel
theorem dX1_goToNextOrder_7 : decode cX1_goToNextOrder 7 = .ok (.iload_n 1, 1) := by decide +kernel
theorem dX1_goToNextOrder_8 : decode cX1_goToNextOrder 8 = .ok (.ifCond .lt 26, 3) := by decide +kernel
theorem dX1_goToNextOrder_11 : decode cX1_goToNextOrder 11 = .ok (.aload_n 0, 1) := by decide +kernel
theorem dX1_goToNextOrder_12 : decode cX1_goToNextOrder 12 = .ok (.getfield 15, 3) := by decide +kernel
theorem dX1_goToNextOrder_15 : decode cX1_goToNextOrder 15 = .ok (.iload_n 1, 1) := by decide +kernel
theorem dX1_goToNextOrder_16 : decode cX1_goToNextOrder 16 = .ok (.iaload, 1) := by decide +kernel
theorem dX1_goToNextOrder_17 : decode cX1_goToNextOrder 17 = .ok (.aload_n 0, 1) := by decide +kernel
theorem dX1_goToNextOrder_18 : decode cX1_goToNextOrder 18 = .ok (.getfield 15, 3) := by decide +kernel
theorem dX1_goToNextOrder_21 : decode cX1_goToNextOrder 21 = .ok (.iload_n 1, 1) := by decide +kernel
theorem dX1_goToNextOrder_22 : decode cX1_goToNextOrder 22 = .ok (.iconst 1, 1) := by decide +kernel
theorem dX1_goToNextOrder_23 : decode cX1_goToNextOrder 23 = .ok (.iadd, 1) := by decide +kernel
theorem dX1_goToNextOrder_24 : decode cX1_goToNextOrder 24 = .ok (.iaload, 1) := by decide +kernel
theorem dX1_goToNextOrder_25 : decode cX1_goToNextOrder 25 = .ok (.if_icmp .le 9, 3) := by decide +kernel
theorem dX1_goToNextOrder_28 : decode cX1_goToNextOrder 28 = .ok (.iinc 1 (-1), 3) := by decide +kernel
theorem dX1_goToNextOrder_31 : decode cX1_goToNextOrder 31 = .ok (.goto (-24), 3) := by decide +kernel
theorem dX1_goToNextOrder_34 : decode cX1_goToNextOrder 34 = .ok (.iload_n 1, 1) := by decide +kernel
theorem dX1_goToNextOrder_35 : decode cX1_goToNextOrder 35 = .ok (.ifCond .ge 5, 3) := by decide +kernel
theorem dX1_goToNextOrder_38 : decode cX1_goToNextOrder 38 = .ok (.iconst 0, 1) := by decide +kernel
theorem dX1_goToNextOrder_39 : decode cX1_goToNextOrder 39 = .ok (.ireturn, 1) := by decide +kernel
theorem dX1_goToNextOrder_40 : decode cX1_goToNextOrder 40 = .ok (.aload_n 0, 1) := by decide +kernel
theorem dX1_goToNextOrder_41 : decode cX1_goToNextOrder 41 = .ok (.getfield 52, 3) := by decide +kernel
theorem dX1_goToNextOrder_44 : decode cX1_goToNextOrder 44 = .ok (.iconst 1, 1) := by decide +kernel
theorem dX1_goToNextOrder_45 : decode cX1_goToNextOrder 45 = .ok (.isub, 1) := by decide +kernel
theorem dX1_goToNextOrder_46 : decode cX1_goToNextOrder 46 = .ok (.istore_n 2, 1) := by decide +kernel
theorem dX1_goToNextOrder_47 : decode cX1_goToNextOrder 47 = .ok (.iload_n 2, 1) := by decide +kernel
theorem dX1_goToNextOrder_48 : decode cX1_goToNextOrder 48 = .ok (.iload_n 1, 1) := by decide +kernel
theorem dX1_goToNextOrder_49 : decode cX1_goToNextOrder 49 = .ok (.if_icmp .le 24, 3) := by decide +kernel
theorem dX1_goToNextOrder_52 : decode cX1_goToNextOrder 52 = .ok (.aload_n 0, 1) := by decide +kernel
theorem dX1_goToNextOrder_53 : decode cX1_goToNextOrder 53 = .ok (.getfield 15, 3) := by decide +kernel
theorem dX1_goToNextOrder_56 : decode cX1_goToNextOrder 56 = .ok (.iload_n 2, 1) := by decide +kernel
theorem dX1_goToNextOrder_57 : decode cX1_goToNextOrder 57 = .ok (.iaload, 1) := by decide +kernel
theorem dX1_goToNextOrder_58 : decode cX1_goToNextOrder 58 = .ok (.aload_n 0, 1) := by decide +kernel
theorem dX1_goToNextOrder_59 : decode cX1_goToNextOrder 59 = .ok (.getfield 15, 3) := by decide +kernel
theorem dX1_goToNextOrder_62 : decode cX1_goToNextOrder 62 = .ok (.iload_n 1, 1) := by decide +kernel
theorem dX1_goToNextOrder_63 : decode cX1_goToNextOrder 63 = .ok (.iaload, 1) := by decide +kernel
theorem dX1_goToNextOrder_64 : decode cX1_goToNextOrder 64 = .ok (.if_icmp .ge 9, 3) := by decide +kernel
theorem dX1_goToNextOrder_67 : decode cX1_goToNextOrder 67 = .ok (.iinc 2 (-1), 3) := by decide +kernel
theorem dX1_goToNextOrder_70 : decode cX1_goToNextOrder 70 = .ok (.goto (-23), 3) := by decide +kernel
theorem dX1_goToNextOrder_73 : decode cX1_goToNextOrder 73 = .ok (.aload_n 0, 1) := by decide +kernel
theorem dX1_goToNextOrder_74 : decode cX1_goToNextOrder 74 = .ok (.iload_n 1, 1) := by decide +kernel
theorem dX1_goToNextOrder_75 : decode cX1_goToNextOrder 75 = .ok (.iload_n 2, 1) := by decide +kernel
theorem dX1_goToNextOrder_76 : decode cX1_goToNextOrder 76 = .ok (.invokevirtual 97, 3) := by decide +kernel
theorem dX1_goToNextOrder_79 : decode cX1_goToNextOrder 79 = .ok (.iload_n 1, 1) := by decide +kernel
theorem dX1_goToNextOrder_80 : decode cX1_goToNextOrder 80 = .ok (.iconst 1, 1) := by decide +kernel
theorem dX1_goToNextOrder_81 : decode cX1_goToNextOrder 81 = .ok (.iadd, 1) := by decide +kernel
theorem dX1_goToNextOrder_82 : decode cX1_goToNextOrder 82 = .ok (.istore_n 3, 1) := by decide +kernel
theorem dX1_goToNextOrder_83 : decode cX1_goToNextOrder 83 = .ok (.aload_n 0, 1) := by decide +kernel
theorem dX1_goToNextOrder_84 : decode cX1_goToNextOrder 84 = .ok (.getfield 52, 3) := by decide +kernel
theorem dX1_goToNextOrder_87 : decode cX1_goToNextOrder 87 = .ok (.iconst 1, 1) := by decide +kernel
theorem dX1_goToNextOrder_88 : decode cX1_goToNextOrder 88 = .ok (.isub, 1) := by decide +kernel
theorem dX1_goToNextOrder_89 : decode cX1_goToNextOrder 89 = .ok (.istore 4, 2) := by decide +kernel
theorem dX1_goToNextOrder_91 : decode cX1_goToNextOrder 91 = .ok (.iload_n 3, 1) := by decide +kernel
theorem dX1_goToNextOrder_92 : decode cX1_goToNextOrder 92 = .ok (.iload 4, 2) := by decide +kernel
theorem dX1_goToNextOrder_94 : decode cX1_goToNextOrder 94 = .ok (.if_icmp .ge 19, 3) := by decide +kernel
theorem dX1_goToNextOrder_97 : decode cX1_goToNextOrder 97 = .ok (.aload_n 0, 1) := by decide +kernel
theorem dX1_goToNextOrder_98 : decode cX1_goToNextOrder 98 = .ok (.iload_n 3, 1) := by decide +kernel
theorem dX1_goToNextOrder_99 : decode cX1_goToNextOrder 99 = .ok (.iload 4, 2) := by decide +kernel
theorem dX1_goToNextOrder_101 : decode cX1_goToNextOrder 101 = .ok (.invokevirtual 97, 3) := by decide +kernel
theorem dX1_goToNextOrder_104 : decode cX1_goToNextOrder 104 = .ok (.iinc 3 1, 3) := by decide +kernel
theorem dX1_goToNextOrder_107 : decode cX1_goToNextOrder 107 = .ok (.iinc 4 (-1), 3) := by decide +kernel
theorem dX1_goToNextOrder_110 : decode cX1_goToNextOrder 110 = .ok (.goto (-19), 3) := by decide +kernel
theorem dX1_goToNextOrder_113 : decode cX1_goToNextOrder 113 = .ok (.iconst 1, 1) := by decide +kernel
theorem dX1_goToNextOrder_114 : decode cX1_goToNextOrder 114 = .ok (.ireturn, 1) := by decide +kernel
theorem dX1_swap_0 : decode cX1_swap 0 = .ok (.aload_n 0, 1) := by decide +kernel
theorem dX1_swap_1 : decode cX1_swap 1 = .ok (.getfield 15, 3) := by decide +kernel
theorem dX1_swap_4 : decode cX1_swap 4 = .ok (.iload_n 1, 1) := by decide +kernel
theorem dX1_swap_5 : decode cX1_swap 5 = .ok (.iaload, 1) := by decide +kernel
theorem dX1_swap_6 : decode cX1_swap 6 = .ok (.istore_n 3, 1) := by decide +kernel
theorem dX1_swap_7 : decode cX1_swap 7 = .ok (.aload_n 0, 1) := by decide +kernel
theorem dX1_swap_8 : decode cX1_swap 8 = .ok (.getfield 15, 3) := by decide +kernel
theorem dX1_swap_11 : decode cX1_swap 11 = .ok (.iload_n 1, 1) := by decide +kernel
theorem dX1_swap_12 : decode cX1_swap 12 = .ok (.aload_n 0, 1) := by decide +kernel
theorem dX1_swap_13 : decode cX1_swap 13 = .ok (.getfield 15, 3) := by decide +kernel
theorem dX1_swap_16 : decode cX1_swap 16 = .ok (.iload_n 2, 1) := by decide +kernel
theorem dX1_swap_17 : decode cX1_swap 17 = .ok (.iaload, 1) := by decide +kernel
theorem dX1_swap_18 : decode cX1_swap 18 = .ok (.iastore, 1) := by decide +kernel
theorem dX1_swap_19 : decode cX1_swap 19 = .ok (.aload_n 0, 1) := by decide +kernel
theorem dX1_swap_20 : decode cX1_swap 20 = .ok (.getfield 15, 3) := by decide +kernel
theorem dX1_swap_23 : decode cX1_swap 23 = .ok (.iload_n 2, 1) := by decide +kernel
theorem dX1_swap_24 : decode cX1_swap 24 = .ok (.iload_n 3, 1) := by decide +kernel
theorem dX1_swap_25 : decode cX1_swap 25 = .ok (.iastore, 1) := by decide +kernel
theorem dX1_swap_26 : decode cX1_swap 26 = .ok (.return_, 1) := by decide +kernel
theorem dX2_init_0 : decode cX2_init 0 = .ok (.aload_n 0, 1) := by decide +kernel
theorem dX2_init_1 : decode cX2_init 1 = .ok (.invokespecial 3, 3) := by decide +kernel
theorem dX2_init_4 : decode cX2_init 4 = .ok (.aload_n 0, 1) := by decide +kernel
theorem dX2_init_5 : decode cX2_init 5 = .ok (.iconst 4, 1) := by decide +kernel
theorem dX2_init_6 : decode cX2_init 6 = .ok (.newarray .int, 2) := by decide +kernel
theorem dX2_init_8 : decode cX2_init 8 = .ok (.putfield 9, 3) := by decide +kernel
theorem dX2_init_11 : decode cX2_init 11 = .ok (.aload_n 0, 1) := by decide +kernel
theorem dX2_init_12 : decode cX2_init 12 = .ok (.iconst 4, 1) := by decide +kernel
theorem dX2_init_13 : decode cX2_init 13 = .ok (.newarray .int, 2) := by decide +kernel
theorem dX2_init_15 : decode cX2_init 15 = .ok (.putfield 15, 3) := by decide +kernel
theorem dX2_init_18 : decode cX2_init 18 = .ok (.aload_n 0, 1) := by decide +kernel
theorem dX2_init_19 : decode cX2_init 19 = .ok (.iconst 4, 1) := by decide +kernel
theorem dX2_init_20 : decode cX2_init 20 = .ok (.newarray .int, 2) := by decide +kernel
theorem dX2_init_22 : decode cX2_init 22 = .ok (.putfield 18, 3) := by decide +kernel
theorem dX2_init_25 : decode cX2_init 25 = .ok (.aload_n 0, 1) := by decide +kernel
theorem dX2_init_26 : decode cX2_init 26 = .ok (.iconst 4, 1) := by decide +kernel
theorem dX2_init_27 : decode cX2_init 27 = .ok (.newarray .int, 2) := by decide +kernel
theorem dX2_init_29 : decode cX2_init 29 = .ok (.putfield 21, 3) := by decide +kernel
theorem dX2_init_32 : decode cX2_init 32 = .ok (.aload_n 0, 1) := by decide +kernel
theorem dX2_init_33 : decode cX2_init 33 = .ok (.bipush 16, 2) := by decide +kernel
theorem dX2_init_35 : decode cX2_init 35 = .ok (.newarray .int, 2) := by decide +kernel
theorem dX2_init_37 : decode cX2_init 37 = .ok (.putfield 24, 3) := by decide +kernel
theorem dX2_init_40 : decode cX2_init 40 = .ok (.aload_n 0, 1) := by decide +kernel
theorem dX2_init_41 : decode cX2_init 41 = .ok (.bipush 16, 2) := by decide +kernel
theorem dX2_init_43 : decode cX2_init 43 = .ok (.newarray .int, 2) := by decide +kernel
theorem dX2_init_45 : decode cX2_init 45 = .ok (.putfield 27, 3) := by decide +kernel
theorem dX2_init_48 : decode cX2_init 48 = .ok (.aload_n 0, 1) := by decide +kernel
theorem dX2_init_49 : decode cX2_init 49 = .ok (.bipush 16, 2) := by decide +kernel
theorem dX2_init_51 : decode cX2_init 51 = .ok (.newarray .int, 2) := by decide +kernel
theorem dX2_init_53 : decode cX2_init 53 = .ok (.putfield 30, 3) := by decide +kernel
theorem dX2_init_56 : decode cX2_init 56 = .ok (.aload_n 0, 1) := by decide +kernel
theorem dX2_init_57 : decode cX2_init 57 = .ok (.bipush 16, 2) := by decide +kernel
theorem dX2_init_59 : decode cX2_init 59 = .ok (.newarray .int, 2) := by decide +kernel
theorem dX2_init_61 : decode cX2_init 61 = .ok (.putfield 33, 3) := by decide +kernel
theorem dX2_init_64 : decode cX2_init 64 = .ok (.aload_n 0, 1) := by decide +kernel
theorem dX2_init_65 : decode cX2_init 65 = .ok (.bipush 16, 2) := by decide +kernel
theorem dX2_init_67 : decode cX2_init 67 = .ok (.newarray .int, 2) := by decide +kernel
theorem dX2_init_69 : decode cX2_init 69 = .ok (.putfield 36, 3) := by decide +kernel
theorem dX2_init_72 : decode cX2_init 72 = .ok (.return_, 1) := by decide +kernel
theorem dX2_clear_0 : decode cX2_clear 0 = .ok (.aload_n 0, 1) := by decide +kernel
theorem dX2_clear_1 : decode cX2_clear 1 = .ok (.iconst 1, 1) := by decide +kernel
theorem dX2_clear_2 : decode cX2_clear 2 = .ok (.putfield 39, 3) := by decide +kernel
theorem dX2_clear_5 : decode cX2_clear 5 = .ok (.aload_n 0, 1) := by decide +kernel
theorem dX2_clear_6 : decode cX2_clear 6 = .ok (.iconst 0, 1) := by decide +kernel
theorem dX2_clear_7 : decode cX2_clear 7 = .ok (.putfield 43, 3) := by decide +kernel
theorem dX2_clear_10 : decode cX2_clear 10 = .ok (.aload_n 0, 1) := by decide +kernel
theorem dX2_clear_11 : decode cX2_clear 11 = .ok (.iconst 0, 1) := by decide +kernel
theorem dX2_clear_12 : decode cX2_clear 12 = .ok (.putfield 47, 3) := by decide +kernel
theorem dX2_clear_15 : decode cX2_clear 15 = .ok (.aload_n 0, 1) := by decide +kernel
theorem dX2_clear_16 : decode cX2_clear 16 = .ok (.iconst 0, 1) := by decide +kernel
theorem dX2_clear_17 : decode cX2_clear 17 = .ok (.putfield 50, 3) := by decide +kernel
theorem dX2_clear_20 : decode cX2_clear 20 = .ok (.aload_n 0, 1) := by decide +kernel
theorem dX2_clear_21 : decode cX2_clear 21 = .ok (.iconst 0, 1) := by decide +kernel
theorem dX2_clear_22 : decode cX2_clear 22 = .ok (.putfield 53, 3) := by decide +kernel
theorem dX2_clear_25 : decode cX2_clear 25 = .ok (.aload_n 0, 1) := by decide +kernel
theorem dX2_clear_26 : decode cX2_clear 26 = .ok (.iconst 0, 1) := by decide +kernel
theorem dX2_clear_27 : decode cX2_clear 27 = .ok (.putfield 56, 3) := by decide +kernel
theorem dX2_clear_30 : decode cX2_clear 30 = .ok (.return_, 1) := by decide +kernel
theorem dX2_become_0 : decode cX2_become 0 = .ok (.aload_n 0, 1) := by decide +kernel
theorem dX2_become_1 : decode cX2_become 1 = .ok (.aload_n 1, 1) := by decide +kernel
theorem dX2_become_2 : decode cX2_become 2 = .ok (.getfield 39, 3) := by decide +kernel
theorem dX2_become_5 : decode cX2_become 5 = .ok (.putfield 39, 3) := by decide +kernel
theorem dX2_become_8 : decode cX2_become 8 = .ok (.aload_n 0, 1) := by decide +kernel
theorem dX2_become_9 : decode cX2_become 9 = .ok (.aload_n 1, 1) := by decide +kernel
theorem dX2_become_10 : decode cX2_become 10 = .ok (.getfield 43, 3) := by decide +kernel
theorem dX2_become_13 : decode cX2_become 13 = .ok (.putfield 43, 3) := by decide +kernel
theorem dX2_become_16 : decode cX2_become 16 = .ok (.aload_n 0, 1) := by decide +kernel
theorem dX2_become_17 : decode cX2_become 17 = .ok (.aload_n 1, 1) := by decide +kernel
theorem dX2_become_18 : decode cX2_become 18 = .ok (.getfield 47, 3) := by decide +kernel
theorem dX2_become_21 : decode cX2_become 21 = .ok (.putfield 47, 3) := by decide +kernel
theorem dX2_become_24 : decode cX2_become 24 = .ok (.aload_n 0, 1) := by decide +kernel
theorem dX2_become_25 : decode cX2_become 25 = .ok (.aload_n 1, 1) := by decide +kernel
theorem dX2_become_26 : decode cX2_become 26 = .ok (.getfield 50, 3) := by decide +kernel
theorem dX2_become_29 : decode cX2_become 29 = .ok (.putfield 50, 3) := by decide +kernel
theorem dX2_become_32 : decode cX2_become 32 = .ok (.aload_n 0, 1) := by decide +kernel
theorem dX2_become_33 : decode cX2_become 33 = .ok (.aload_n 1, 1) := by decide +kernel
theorem dX2_become_34 : decode cX2_become 34 = .ok (.getfield 53, 3) := by decide +kernel
theorem dX2_become_37 : decode cX2_become 37 = .ok (.putfield 53, 3) := by decide +kernel
theorem dX2_become_40 : decode cX2_become 40 = .ok (.aload_n 0, 1) := by decide +kernel
theorem dX2_become_41 : decode cX2_become 41 = .ok (.aload_n 1, 1) := by decide +kernel
theorem dX2_become_42 : decode cX2_become 42 = .ok (.getfield 56, 3) := by decide +kernel
theorem dX2_become_45 : decode cX2_become 45 = .ok (.putfield 56, 3) := by decide +kernel
theorem dX2_become_48 : decode cX2_become 48 = .ok (.aload_n 1, 1) := by decide +kernel
theorem dX2_become_49 : decode cX2_become 49 = .ok (.getfield 9, 3) := by decide +kernel
theorem dX2_become_52 : decode cX2_become 52 = .ok (.iconst 0, 1) := by decide +kernel
theorem dX2_become_53 : decode cX2_become 53 = .ok (.aload_n 0, 1) := by decide +kernel
theorem dX2_become_54 : decode cX2_become 54 = .ok (.getfield 9, 3) := by decide +kernel
theorem dX2_become_57 : decode cX2_become 57 = .ok (.iconst 0, 1) := by decide +kernel
theorem dX2_become_58 : decode cX2_become 58 = .ok (.iconst 4, 1) := by decide +kernel
theorem dX2_become_59 : decode cX2_become 59 = .ok (.invokestatic 59, 3) := by decide +kernel
theorem dX2_become_62 : decode cX2_become 62 = .ok (.aload_n 1, 1) := by decide +kernel
theorem dX2_become_63 : decode cX2_become 63 = .ok (.getfield 15, 3) := by decide +kernel
theorem dX2_become_66 : decode cX2_become 66 = .ok (.iconst 0, 1) := by decide +kernel
theorem dX2_become_67 : decode cX2_become 67 = .ok (.aload_n 0, 1) := by decide +kernel
theorem dX2_become_68 : decode cX2_become 68 = .ok (.getfield 15, 3) := by decide +kernel
theorem dX2_become_71 : decode cX2_become 71 = .ok (.iconst 0, 1) := by decide +kernel
theorem dX2_become_72 : decode cX2_become 72 = .ok (.iconst 4, 1) := by decide +kernel
theorem dX2_become_73 : decode cX2_become 73 = .ok (.invokestatic 59, 3) := by decide +kernel
theorem dX2_become_76 : decode cX2_become 76 = .ok (.aload_n 1, 1) := by decide +kernel
theorem dX2_become_77 : decode cX2_become 77 = .ok (.getfield 18, 3) := by decide +kernel
theorem dX2_become_80 : decode cX2_become 80 = .ok (.iconst 0, 1) := by decide +kernel
theorem dX2_become_81 : decode cX2_become 81 = .ok (.aload_n 0, 1) := by decide +kernel
theorem dX2_become_82 : decode cX2_become 82 = .ok (.getfield 18, 3) := by decide +kernel
theorem dX2_become_85 : decode cX2_become 85 = .ok (.iconst 0, 1) := by decide +kernel
theorem dX2_become_86 : decode cX2_become 86 = .ok (.iconst 4, 1) := by decide +kernel
theorem dX2_become_87 : decode cX2_become 87 = .ok (.invokestatic 59, 3) := by decide +kernel
theorem dX2_become_90 : decode cX2_become 90 = .ok (.aload_n 1, 1) := by decide +kernel
theorem dX2_become_91 : decode cX2_become 91 = .ok (.getfield 21, 3) := by decide +kernel
theorem dX2_become_94 : decode cX2_become 94 = .ok (.iconst 0, 1) := by decide +kernel
theorem dX2_become_95 : decode cX2_become 95 = .ok (.aload_n 0, 1) := by decide +kernel
theorem dX2_become_96 : decode cX2_become 96 = .ok (.getfield 21, 3) := by decide +kernel
theorem dX2_become_99 : decode cX2_become 99 = .ok (.iconst 0, 1) := by decide +kernel
theorem dX2_become_100 : decode cX2_become 100 = .ok (.iconst 4, 1) := by decide +kernel
theorem dX2_become_101 : decode cX2_become 101 = .ok (.invokestatic 59, 3) := by decide +kernel
theorem dX2_become_104 : decode cX2_become 104 = .ok (.aload_n 1, 1) := by decide +kernel
theorem dX2_become_105 : decode cX2_become 105 = .ok (.getfield 24, 3) := by decide +kernel
theorem dX2_become_108 : decode cX2_become 108 = .ok (.iconst 0, 1) := by decide +kernel
theorem dX2_become_109 : decode cX2_become 109 = .ok (.aload_n 0, 1) := by decide +kernel
theorem dX2_become_110 : decode cX2_become 110 = .ok (.getfield 24, 3) := by decide +kernel
theorem dX2_become_113 : decode cX2_become 113 = .ok (.iconst 0, 1) := by decide +kernel
theorem dX2_become_114 : decode cX2_become 114 = .ok (.bipush 16, 2) := by decide +kernel
theorem dX2_become_116 : decode cX2_become 116 = .ok (.invokestatic 59, 3) := by decide +kernel
theorem dX2_become_119 : decode cX2_become 119 = .ok (.aload_n 1, 1) := by decide +kernel
theorem dX2_become_120 : decode cX2_become 120 = .ok (.getfield 27, 3) := by decide +kernel
theorem dX2_become_123 : decode cX2_become 123 = .ok (.iconst 0, 1) := by decide +kernel
theorem dX2_become_124 : decode cX2_become 124 = .ok (.aload_n 0, 1) := by decide +kernel
theorem dX2_become_125 : decode cX2_become 125 = .ok (.getfield 27, 3) := by decide +kernel
theorem dX2_become_128 : decode cX2_become 128 = .ok (.iconst 0, 1) := by decide +kernel
theorem dX2_become_129 : decode cX2_become 129 = .ok (.bipush 16, 2) := by decide +kernel
theorem dX2_become_131 : decode cX2_become 131 = .ok (.invokestatic 59, 3) := by decide +kernel
theorem dX2_become_134 : decode cX2_become 134 = .ok (.aload_n 1, 1) := by decide +kernel
theorem dX2_become_135 : decode cX2_become 135 = .ok (.getfield 30, 3) := by decide +kernel
theorem dX2_become_138 : decode cX2_become 138 = .ok (.iconst 0, 1) := by decide +kernel
theorem dX2_become_139 : decode cX2_become 139 = .ok (.aload_n 0, 1) := by decide +kernel
theorem dX2_become_140 : decode cX2_become 140 = .ok (.getfield 30, 3) := by decide +kernel
theorem dX2_become_143 : decode cX2_become 143 = .ok (.iconst 0, 1) := by decide +kernel
theorem dX2_become_144 : decode cX2_become 144 = .ok (.bipush 16, 2) := by decide +kernel
theorem dX2_become_146 : decode cX2_become 146 = .ok (.invokestatic 59, 3) := by decide +kernel
theorem dX2_become_149 : decode cX2_become 149 = .ok (.aload_n 1, 1) := by decide +kernel
theorem dX2_become_150 : decode cX2_become 150 = .ok (.getfield 33, 3) := by decide +kernel
theorem dX2_become_153 : decode cX2_become 153 = .ok (.iconst 0, 1) := by decide +kernel
theorem dX2_become_154 : decode cX2_become 154 = .ok (.aload_n 0, 1) := by decide +kernel
theorem dX2_become_155 : decode cX2_become 155 = .ok (.getfield 33, 3) := by decide +kernel
theorem dX2_become_158 : decode cX2_become 158 = .ok (.iconst 0, 1) := by decide +kernel
theorem dX2_become_159 : decode cX2_become 159 = .ok (.bipush 16, 2) := by decide +kernel
theorem dX2_become_161 : decode cX2_become 161 = .ok (.invokestatic 59, 3) := by decide +kernel
theorem dX2_become_164 : decode cX2_become 164 = .ok (.aload_n 1, 1) := by decide +kernel
theorem dX2_become_165 : decode cX2_become 165 = .ok (.getfield 36, 3) := by decide +kernel
theorem dX2_become_168 : decode cX2_become 168 = .ok (.iconst 0, 1) := by decide +kernel
theorem dX2_become_169 : decode cX2_become 169 = .ok (.aload_n 0, 1) := by decide +kernel
theorem dX2_become_170 : decode cX2_become 170 = .ok (.getfield 36, 3) := by decide +kernel
theorem dX2_become_173 : decode cX2_become 173 = .ok (.iconst 0, 1) := by decide +kernel
theorem dX2_become_174 : decode cX2_become 174 = .ok (.bipush 16, 2) := by decide +kernel
theorem dX2_become_176 : decode cX2_become 176 = .ok (.invokestatic 59, 3) := by decide +kernel
theorem dX2_become_179 : decode cX2_become 179 = .ok (.return_, 1) := by decide +kernel
theorem dX2_addBuyer_0 : decode cX2_addBuyer 0 = .ok (.aload_n 0, 1) := by decide +kernel
theorem dX2_addBuyer_1 : decode cX2_addBuyer 1 = .ok (.getfield 9, 3) := by decide +kernel
theorem dX2_addBuyer_4 : decode cX2_addBuyer 4 = .ok (.aload_n 0, 1) := by decide +kernel
theorem dX2_addBuyer_5 : decode cX2_addBuyer 5 = .ok (.getfield 50, 3) := by decide +kernel
theorem dX2_addBuyer_8 : decode cX2_addBuyer 8 = .ok (.iload_n 1, 1) := by decide +kernel
theorem dX2_addBuyer_9 : decode cX2_addBuyer 9 = .ok (.iastore, 1) := by decide +kernel
theorem dX2_addBuyer_10 : decode cX2_addBuyer 10 = .ok (.aload_n 0, 1) := by decide +kernel
theorem dX2_addBuyer_11 : decode cX2_addBuyer 11 = .ok (.getfield 15, 3) := by decide +kernel
theorem dX2_addBuyer_14 : decode cX2_addBuyer 14 = .ok (.aload_n 0, 1) := by decide +kernel
theorem dX2_addBuyer_15 : decode cX2_addBuyer 15 = .ok (.getfield 50, 3) := by decide +kernel
theorem dX2_addBuyer_18 : decode cX2_addBuyer 18 = .ok (.iload_n 2, 1) := by decide +kernel
theorem dX2_addBuyer_19 : decode cX2_addBuyer 19 = .ok (.iastore, 1) := by decide +kernel
theorem dX2_addBuyer_20 : decode cX2_addBuyer 20 = .ok (.aload_n 0, 1) := by decide +kernel
theorem dX2_addBuyer_21 : decode cX2_addBuyer 21 = .ok (.getfield 18, 3) := by decide +kernel
theorem dX2_addBuyer_24 : decode cX2_addBuyer 24 = .ok (.aload_n 0, 1) := by decide +kernel
theorem dX2_addBuyer_25 : decode cX2_addBuyer 25 = .ok (.getfield 50, 3) := by decide +kernel
theorem dX2_addBuyer_28 : decode cX2_addBuyer 28 = .ok (.iconst 0, 1) := by decide +kernel
theorem dX2_addBuyer_29 : decode cX2_addBuyer 29 = .ok (.iastore, 1) := by decide +kernel
theorem dX2_addBuyer_30 : decode cX2_addBuyer 30 = .ok (.aload_n 0, 1) := by decide +kernel
theorem dX2_addBuyer_31 : decode cX2_addBuyer 31 = .ok (.getfield 21, 3) := by decide +kernel
theorem dX2_addBuyer_34 : decode cX2_addBuyer 34 = .ok (.aload_n 0, 1) := by decide +kernel
theorem dX2_addBuyer_35 : decode cX2_addBuyer 35 = .ok (.getfield 50, 3) := by decide +kernel
theorem dX2_addBuyer_38 : decode cX2_addBuyer 38 = .ok (.iconst 0, 1) := by decide +kernel
theorem dX2_addBuyer_39 : decode cX2_addBuyer 39 = .ok (.iastore, 1) := by decide +kernel
theorem dX2_addBuyer_40 : decode cX2_addBuyer 40 = .ok (.aload_n 0, 1) := by decide +kernel
theorem dX2_addBuyer_41 : decode cX2_addBuyer 41 = .ok (.dup, 1) := by decide +kernel
theorem dX2_addBuyer_42 : decode cX2_addBuyer 42 = .ok (.getfield 50, 3) := by decide +kernel
theorem dX2_addBuyer_45 : decode cX2_addBuyer 45 = .ok (.iconst 1, 1) := by decide +kernel
theorem dX2_addBuyer_46 : decode cX2_addBuyer 46 = .ok (.iadd, 1) := by decide +kernel
theorem dX2_addBuyer_47 : decode cX2_addBuyer 47 = .ok (.putfield 50, 3) := by decide +kernel
theorem dX2_addBuyer_50 : decode cX2_addBuyer 50 = .ok (.return_, 1) := by decide +kernel
theorem dX2_addWare_0 : decode cX2_addWare 0 = .ok (.aload_n 0, 1) := by decide +kernel
theorem dX2_addWare_1 : decode cX2_addWare 1 = .ok (.getfield 53, 3) := by decide +kernel
theorem dX2_addWare_4 : decode cX2_addWare 4 = .ok (.istore 5, 2) := by decide +kernel
theorem dX2_addWare_6 : decode cX2_addWare 6 = .ok (.aload_n 0, 1) := by decide +kernel
theorem dX2_addWare_7 : decode cX2_addWare 7 = .ok (.getfield 24, 3) := by decide +kernel
theorem dX2_addWare_10 : decode cX2_addWare 10 = .ok (.iload 5, 2) := by decide +kernel
theorem dX2_addWare_12 : decode cX2_addWare 12 = .ok (.iload_n 1, 1) := by decide +kernel
theorem dX2_addWare_13 : decode cX2_addWare 13 = .ok (.iastore, 1) := by decide +kernel
theorem dX2_addWare_14 : decode cX2_addWare 14 = .ok (.aload_n 0, 1) := by decide +kernel
theorem dX2_addWare_15 : decode cX2_addWare 15 = .ok (.getfield 27, 3) := by decide +kernel
theorem dX2_addWare_18 : decode cX2_addWare 18 = .ok (.iload 5, 2) := by decide +kernel
theorem dX2_addWare_20 : decode cX2_addWare 20 = .ok (.iload_n 2, 1) := by decide +kernel
theorem dX2_addWare_21 : decode cX2_addWare 21 = .ok (.iastore, 1) := by decide +kernel
theorem dX2_addWare_22 : decode cX2_addWare 22 = .ok (.aload_n 0, 1) := by decide +kernel
theorem dX2_addWare_23 : decode cX2_addWare 23 = .ok (.getfield 30, 3) := by decide +kernel
theorem dX2_addWare_26 : decode cX2_addWare 26 = .ok (.iload 5, 2) := by decide +kernel
theorem dX2_addWare_28 : decode cX2_addWare 28 = .ok (.iload_n 3, 1) := by decide +kernel
theorem dX2_addWare_29 : decode cX2_addWare 29 = .ok (.iastore, 1) := by decide +kernel
theorem dX2_addWare_30 : decode cX2_addWare 30 = .ok (.aload_n 0, 1) := by decide +kernel
theorem dX2_addWare_31 : decode cX2_addWare 31 = .ok (.getfield 33, 3) := by decide +kernel
theorem dX2_addWare_34 : decode cX2_addWare 34 = .ok (.iload 5, 2) := by decide +kernel
theorem dX2_addWare_36 : decode cX2_addWare 36 = .ok (.ldc 65, 2) := by decide +kernel
theorem dX2_addWare_38 : decode cX2_addWare 38 = .ok (.iastore, 1) := by decide +kernel
theorem dX2_addWare_39 : decode cX2_addWare 39 = .ok (.aload_n 0, 1) := by decide +kernel
theorem dX2_addWare_40 : decode cX2_addWare 40 = .ok (.dup, 1) := by decide +kernel
theorem dX2_addWare_41 : decode cX2_addWare 41 = .ok (.getfield 53, 3) := by decide +kernel
theorem dX2_addWare_44 : decode cX2_addWare 44 = .ok (.iconst 1, 1) := by decide +kernel
theorem dX2_addWare_45 : decode cX2_addWare 45 = .ok (.iadd, 1) := by decide +kernel
theorem dX2_addWare_46 : decode cX2_addWare 46 = .ok (.putfield 53, 3) := by decide +kernel
theorem dX2_addWare_49 : decode cX2_addWare 49 = .ok (.aload_n 0, 1) := by decide +kernel
theorem dX2_addWare_50 : decode cX2_addWare 50 = .ok (.iload 4, 2) := by decide +kernel
theorem dX2_addWare_52 : decode cX2_addWare 52 = .ok (.iload 5, 2) := by decide +kernel
theorem dX2_addWare_54 : decode cX2_addWare 54 = .ok (.invokevirtual 66, 3) := by decide +kernel
theorem dX2_addWare_57 : decode cX2_addWare 57 = .ok (.iload 5, 2) := by decide +kernel
theorem dX2_addWare_59 : decode cX2_addWare 59 = .ok (.ireturn, 1) := by decide +kernel
theorem dX2_removeNewest_0 : decode cX2_removeNewest 0 = .ok (.aload_n 0, 1) := by decide +kernel
theorem dX2_removeNewest_1 : decode cX2_removeNewest 1 = .ok (.iload_n 1, 1) := by decide +kernel
theorem dX2_removeNewest_2 : decode cX2_removeNewest 2 = .ok (.invokevirtual 70, 3) := by decide +kernel
theorem dX2_removeNewest_5 : decode cX2_removeNewest 5 = .ok (.aload_n 0, 1) := by decide +kernel
theorem dX2_removeNewest_6 : decode cX2_removeNewest 6 = .ok (.dup, 1) := by decide +kernel
theorem dX2_removeNewest_7 : decode cX2_removeNewest 7 = .ok (.getfield 53, 3) := by decide +kernel
theorem dX2_removeNewest_10 : decode cX2_removeNewest 10 = .ok (.iconst 1, 1) := by decide +kernel
theorem dX2_removeNewest_11 : decode cX2_removeNewest 11 = .ok (.isub, 1) := by decide +kernel
theorem dX2_removeNewest_12 : decode cX2_removeNewest 12 = .ok (.putfield 53, 3) := by decide +kernel
theorem dX2_removeNewest_15 : decode cX2_removeNewest 15 = .ok (.return_, 1) := by decide +kernel
theorem dX2_sell_0 : decode cX2_sell 0 = .ok (.aload_n 0, 1) := by decide +kernel
theorem dX2_sell_1 : decode cX2_sell 1 = .ok (.iload_n 2, 1) := by decide +kernel
theorem dX2_sell_2 : decode cX2_sell 2 = .ok (.invokevirtual 74, 3) := by decide +kernel
theorem dX2_sell_5 : decode cX2_sell 5 = .ok (.istore_n 3, 1) := by decide +kernel
theorem dX2_sell_6 : decode cX2_sell 6 = .ok (.aload_n 0, 1) := by decide +kernel
theorem dX2_sell_7 : decode cX2_sell 7 = .ok (.iload_n 1, 1) := by decide +kernel
theorem dX2_sell_8 : decode cX2_sell 8 = .ok (.iload_n 3, 1) := by decide +kernel
theorem dX2_sell_9 : decode cX2_sell 9 = .ok (.iconst 0, 1) := by decide +kernel
theorem dX2_sell_10 : decode cX2_sell 10 = .ok (.invokevirtual 78, 3) := by decide +kernel
theorem dX2_sell_13 : decode cX2_sell 13 = .ok (.istore 4, 2) := by decide +kernel
theorem dX2_sell_15 : decode cX2_sell 15 = .ok (.aload_n 0, 1) := by decide +kernel
theorem dX2_sell_16 : decode cX2_sell 16 = .ok (.getfield 15, 3) := by decide +kernel
theorem dX2_sell_19 : decode cX2_sell 19 = .ok (.iload_n 1, 1) := by decide +kernel
theorem dX2_sell_20 : decode cX2_sell 20 = .ok (.dup2, 1) := by decide +kernel
theorem dX2_sell_21 : decode cX2_sell 21 = .ok (.iaload, 1) := by decide +kernel
theorem dX2_sell_22 : decode cX2_sell 22 = .ok (.aload_n 0, 1) := by decide +kernel
theorem dX2_sell_23 : decode cX2_sell 23 = .ok (.iload_n 3, 1) := by decide +kernel
theorem dX2_sell_24 : decode cX2_sell 24 = .ok (.iconst 0, 1) := by decide +kernel
theorem dX2_sell_25 : decode cX2_sell 25 = .ok (.invokevirtual 82, 3) := by decide +kernel
theorem dX2_sell_28 : decode cX2_sell 28 = .ok (.isub, 1) := by decide +kernel
theorem dX2_sell_29 : decode cX2_sell 29 = .ok (.iastore, 1) := by decide +kernel
theorem dX2_sell_30 : decode cX2_sell 30 = .ok (.aload_n 0, 1) := by decide +kernel
theorem dX2_sell_31 : decode cX2_sell 31 = .ok (.getfield 18, 3) := by decide +kernel
theorem dX2_sell_34 : decode cX2_sell 34 = .ok (.iload_n 1, 1) := by decide +kernel
theorem dX2_sell_35 : decode cX2_sell 35 = .ok (.dup2, 1) := by decide +kernel
theorem dX2_sell_36 : decode cX2_sell 36 = .ok (.iaload, 1) := by decide +kernel
theorem dX2_sell_37 : decode cX2_sell 37 = .ok (.iload 4, 2) := by decide +kernel
theorem dX2_sell_39 : decode cX2_sell 39 = .ok (.iadd, 1) := by decide +kernel
theorem dX2_sell_40 : decode cX2_sell 40 = .ok (.iastore, 1) := by decide +kernel
theorem dX2_sell_41 : decode cX2_sell 41 = .ok (.aload_n 0, 1) := by decide +kernel
theorem dX2_sell_42 : decode cX2_sell 42 = .ok (.getfield 21, 3) := by decide +kernel
theorem dX2_sell_45 : decode cX2_sell 45 = .ok (.iload_n 1, 1) := by decide +kernel
theorem dX2_sell_46 : decode cX2_sell 46 = .ok (.dup2, 1) := by decide +kernel
theorem dX2_sell_47 : decode cX2_sell 47 = .ok (.iaload, 1) := by decide +kernel
theorem dX2_sell_48 : decode cX2_sell 48 = .ok (.iconst 1, 1) := by decide +kernel
theorem dX2_sell_49 : decode cX2_sell 49 = .ok (.iadd, 1) := by decide +kernel
theorem dX2_sell_50 : decode cX2_sell 50 = .ok (.iastore, 1) := by decide +kernel
theorem dX2_sell_51 : decode cX2_sell 51 = .ok (.aload_n 0, 1) := by decide +kernel
theorem dX2_sell_52 : decode cX2_sell 52 = .ok (.getfield 33, 3) := by decide +kernel
theorem dX2_sell_55 : decode cX2_sell 55 = .ok (.iload_n 3, 1) := by decide +kernel
theorem dX2_sell_56 : decode cX2_sell 56 = .ok (.iload_n 1, 1) := by decide +kernel
theorem dX2_sell_57 : decode cX2_sell 57 = .ok (.iastore, 1) := by decide +kernel
theorem dX2_sell_58 : decode cX2_sell 58 = .ok (.aload_n 0, 1) := by decide +kernel
theorem dX2_sell_59 : decode cX2_sell 59 = .ok (.iload_n 2, 1) := by decide +kernel
theorem dX2_sell_60 : decode cX2_sell 60 = .ok (.invokevirtual 70, 3) := by decide +kernel
theorem dX2_sell_63 : decode cX2_sell 63 = .ok (.iload 4, 2) := by decide +kernel
theorem dX2_sell_65 : decode cX2_sell 65 = .ok (.ireturn, 1) := by decide +kernel
theorem dX2_unsell_0 : decode cX2_unsell 0 = .ok (.aload_n 0, 1) := by decide +kernel
theorem dX2_unsell_1 : decode cX2_unsell 1 = .ok (.getfield 33, 3) := by decide +kernel
theorem dX2_unsell_4 : decode cX2_unsell 4 = .ok (.iload_n 1, 1) := by decide +kernel
theorem dX2_unsell_5 : decode cX2_unsell 5 = .ok (.iaload, 1) := by decide +kernel
theorem dX2_unsell_6 : decode cX2_unsell 6 = .ok (.istore_n 3, 1) := by decide +kernel
theorem dX2_unsell_7 : decode cX2_unsell 7 = .ok (.aload_n 0, 1) := by decide +kernel
theorem dX2_unsell_8 : decode cX2_unsell 8 = .ok (.getfield 15, 3) := by decide +kernel
theorem dX2_unsell_11 : decode cX2_unsell 11 = .ok (.iload_n 3, 1) := by decide +kernel
theorem dX2_unsell_12 : decode cX2_unsell 12 = .ok (.dup2, 1) := by decide +kernel
theorem dX2_unsell_13 : decode cX2_unsell 13 = .ok (.iaload, 1) := by decide +kernel
theorem dX2_unsell_14 : decode cX2_unsell 14 = .ok (.aload_n 0, 1) := by decide +kernel
theorem dX2_unsell_15 : decode cX2_unsell 15 = .ok (.iload_n 1, 1) := by decide +kernel
theorem dX2_unsell_16 : decode cX2_unsell 16 = .ok (.iconst 0, 1) := by decide +kernel
theorem dX2_unsell_17 : decode cX2_unsell 17 = .ok (.invokevirtual 82, 3) := by decide +kernel
theorem dX2_unsell_20 : decode cX2_unsell 20 = .ok (.iadd, 1) := by decide +kernel
theorem dX2_unsell_21 : decode cX2_unsell 21 = .ok (.iastore, 1) := by decide +kernel
theorem dX2_unsell_22 : decode cX2_unsell 22 = .ok (.aload_n 0, 1) := by decide +kernel
theorem dX2_unsell_23 : decode cX2_unsell 23 = .ok (.getfield 18, 3) := by decide +kernel
theorem dX2_unsell_26 : decode cX2_unsell 26 = .ok (.iload_n 3, 1) := by decide +kernel
theorem dX2_unsell_27 : decode cX2_unsell 27 = .ok (.dup2, 1) := by decide +kernel
theorem dX2_unsell_28 : decode cX2_unsell 28 = .ok (.iaload, 1) := by decide +kernel
theorem dX2_unsell_29 : decode cX2_unsell 29 = .ok (.aload_n 0, 1) := by decide +kernel
theorem dX2_unsell_30 : decode cX2_unsell 30 = .ok (.iload_n 3, 1) := by decide +kernel
theorem dX2_unsell_31 : decode cX2_unsell 31 = .ok (.iload_n 1, 1) := by decide +kernel
theorem dX2_unsell_32 : decode cX2_unsell 32 = .ok (.iconst 0, 1) := by decide +kernel
theorem dX2_unsell_33 : decode cX2_unsell 33 = .ok (.invokevirtual 78, 3) := by decide +kernel
theorem dX2_unsell_36 : decode cX2_unsell 36 = .ok (.isub, 1) := by decide +kernel
theorem dX2_unsell_37 : decode cX2_unsell 37 = .ok (.iastore, 1) := by decide +kernel
theorem dX2_unsell_38 : decode cX2_unsell 38 = .ok (.aload_n 0, 1) := by decide +kernel
theorem dX2_unsell_39 : decode cX2_unsell 39 = .ok (.getfield 21, 3) := by decide +kernel
theorem dX2_unsell_42 : decode cX2_unsell 42 = .ok (.iload_n 3, 1) := by decide +kernel
theorem dX2_unsell_43 : decode cX2_unsell 43 = .ok (.dup2, 1) := by decide +kernel
theorem dX2_unsell_44 : decode cX2_unsell 44 = .ok (.iaload, 1) := by decide +kernel
theorem dX2_unsell_45 : decode cX2_unsell 45 = .ok (.iconst 1, 1) := by decide +kernel
theorem dX2_unsell_46 : decode cX2_unsell 46 = .ok (.isub, 1) := by decide +kernel
theorem dX2_unsell_47 : decode cX2_unsell 47 = .ok (.iastore, 1) := by decide +kernel
theorem dX2_unsell_48 : decode cX2_unsell 48 = .ok (.aload_n 0, 1) := by decide +kernel
theorem dX2_unsell_49 : decode cX2_unsell 49 = .ok (.getfield 33, 3) := by decide +kernel
theorem dX2_unsell_52 : decode cX2_unsell 52 = .ok (.iload_n 1, 1) := by decide +kernel
theorem dX2_unsell_53 : decode cX2_unsell 53 = .ok (.ldc 65, 2) := by decide +kernel
theorem dX2_unsell_55 : decode cX2_unsell 55 = .ok (.iastore, 1) := by decide +kernel
theorem dX2_unsell_56 : decode cX2_unsell 56 = .ok (.aload_n 0, 1) := by decide +kernel
theorem dX2_unsell_57 : decode cX2_unsell 57 = .ok (.iload_n 2, 1) := by decide +kernel
theorem dX2_unsell_58 : decode cX2_unsell 58 = .ok (.iload_n 1, 1) := by decide +kernel
theorem dX2_unsell_59 : decode cX2_unsell 59 = .ok (.invokevirtual 66, 3) := by decide +kernel
theorem dX2_unsell_62 : decode cX2_unsell 62 = .ok (.return_, 1) := by decide +kernel
theorem dX2_passDays_0 : decode cX2_passDays 0 = .ok (.aload_n 0, 1) := by decide +kernel
theorem dX2_passDays_1 : decode cX2_passDays 1 = .ok (.dup, 1) := by decide +kernel
theorem dX2_passDays_2 : decode cX2_passDays 2 = .ok (.getfield 47, 3) := by decide +kernel
theorem dX2_passDays_5 : decode cX2_passDays 5 = .ok (.iload_n 1, 1) := by decide +kernel
theorem dX2_passDays_6 : decode cX2_passDays 6 = .ok (.iadd, 1) := by decide +kernel
theorem dX2_passDays_7 : decode cX2_passDays 7 = .ok (.putfield 47, 3) := by decide +kernel
theorem dX2_passDays_10 : decode cX2_passDays 10 = .ok (.iconst 0, 1) := by decide +kernel
theorem dX2_passDays_11 : decode cX2_passDays 11 = .ok (.istore_n 2, 1) := by decide +kernel
theorem dX2_passDays_12 : decode cX2_passDays 12 = .ok (.iload_n 2, 1) := by decide +kernel
theorem dX2_passDays_13 : decode cX2_passDays 13 = .ok (.aload_n 0, 1) := by decide +kernel
theorem dX2_passDays_14 : decode cX2_passDays 14 = .ok (.getfield 56, 3) := by decide +kernel
theorem dX2_passDays_17 : decode cX2_passDays 17 = .ok (.if_icmp .ge 24, 3) := by decide +kernel
theorem dX2_passDays_20 : decode cX2_passDays 20 = .ok (.aload_n 0, 1) := by decide +kernel
theorem dX2_passDays_21 : decode cX2_passDays 21 = .ok (.getfield 30, 3) := by decide +kernel
theorem dX2_passDays_24 : decode cX2_passDays 24 = .ok (.aload_n 0, 1) := by decide +kernel
theorem dX2_passDays_25 : decode cX2_passDays 25 = .ok (.getfield 36, 3) := by decide +kernel
theorem dX2_passDays_28 : decode cX2_passDays 28 = .ok (.iload_n 2, 1) := by decide +kernel
theorem dX2_passDays_29 : decode cX2_passDays 29 = .ok (.iaload, 1) := by decide +kernel
theorem dX2_passDays_30 : decode cX2_passDays 30 = .ok (.dup2, 1) := by decide +kernel
theorem dX2_passDays_31 : decode cX2_passDays 31 = .ok (.iaload, 1) := by decide +kernel
theorem dX2_passDays_32 : decode cX2_passDays 32 = .ok (.iload_n 1, 1) := by decide +kernel
theorem dX2_passDays_33 : decode cX2_passDays 33 = .ok (.iadd, 1) := by decide +kernel
theorem dX2_passDays_34 : decode cX2_passDays 34 = .ok (.iastore, 1) := by decide +kernel
theorem dX2_passDays_35 : decode cX2_passDays 35 = .ok (.iinc 2 1, 3) := by decide +kernel
theorem dX2_passDays_38 : decode cX2_passDays 38 = .ok (.goto (-26), 3) := by decide +kernel
theorem dX2_passDays_41 : decode cX2_passDays 41 = .ok (.return_, 1) := by decide +kernel
theorem dX2_wareAt_0 : decode cX2_wareAt 0 = .ok (.aload_n 0, 1) := by decide +kernel
theorem dX2_wareAt_1 : decode cX2_wareAt 1 = .ok (.getfield 36, 3) := by decide +kernel
theorem dX2_wareAt_4 : decode cX2_wareAt 4 = .ok (.iload_n 1, 1) := by decide +kernel
theorem dX2_wareAt_5 : decode cX2_wareAt 5 = .ok (.ifCond .ne 7, 3) := by decide +kernel
theorem dX2_wareAt_8 : decode cX2_wareAt 8 = .ok (.iconst 0, 1) := by decide +kernel
theorem dX2_wareAt_9 : decode cX2_wareAt 9 = .ok (.goto 9, 3) := by decide +kernel
theorem dX2_wareAt_12 : decode cX2_wareAt 12 = .ok (.aload_n 0, 1) := by decide +kernel
theorem dX2_wareAt_13 : decode cX2_wareAt 13 = .ok (.getfield 56, 3) := by decide +kernel
theorem dX2_wareAt_16 : decode cX2_wareAt 16 = .ok (.iconst 1, 1) := by decide +kernel
theorem dX2_wareAt_17 : decode cX2_wareAt 17 = .ok (.isub, 1) := by decide +kernel
theorem dX2_wareAt_18 : decode cX2_wareAt 18 = .ok (.iaload, 1) := by decide +kernel
theorem dX2_wareAt_19 : decode cX2_wareAt 19 = .ok (.ireturn, 1) := by decide +kernel
theorem dX2_placeOf_0 : decode cX2_placeOf 0 = .ok (.iconst 0, 1) := by decide +kernel
theorem dX2_placeOf_1 : decode cX2_placeOf 1 = .ok (.istore_n 2, 1) := by decide +kernel
theorem dX2_placeOf_2 : decode cX2_placeOf 2 = .ok (.iload_n 2, 1) := by decide +kernel
theorem dX2_placeOf_3 : decode cX2_placeOf 3 = .ok (.aload_n 0, 1) := by decide +kernel
theorem dX2_placeOf_4 : decode cX2_placeOf 4 = .ok (.getfield 56, 3) := by decide +kernel
theorem dX2_placeOf_7 : decode cX2_placeOf 7 = .ok (.if_icmp .ge 21, 3) := by decide +kernel
theorem dX2_placeOf_10 : decode cX2_placeOf 10 = .ok (.aload_n 0, 1) := by decide +kernel
theorem dX2_placeOf_11 : decode cX2_placeOf 11 = .ok (.getfield 36, 3) := by decide +kernel
theorem dX2_placeOf_14 : decode cX2_placeOf 14 = .ok (.iload_n 2, 1) := by decide +kernel
theorem dX2_placeOf_15 : decode cX2_placeOf 15 = .ok (.iaload, 1) := by decide +kernel
theorem dX2_placeOf_16 : decode cX2_placeOf 16 = .ok (.iload_n 1, 1) := by decide +kernel
theorem dX2_placeOf_17 : decode cX2_placeOf 17 = .ok (.if_icmp .ne 5, 3) := by decide +kernel
theorem dX2_placeOf_20 : decode cX2_placeOf 20 = .ok (.iload_n 2, 1) := by decide +kernel
theorem dX2_placeOf_21 : decode cX2_placeOf 21 = .ok (.ireturn, 1) := by decide +kernel
theorem dX2_placeOf_22 : decode cX2_placeOf 22 = .ok (.iinc 2 1, 3) := by decide +kernel
theorem dX2_placeOf_25 : decode cX2_placeOf 25 = .ok (.goto (-23), 3) := by decide +kernel
theorem dX2_placeOf_28 : decode cX2_placeOf 28 = .ok (.ldc 65, 2) := by decide +kernel
theorem dX2_placeOf_30 : decode cX2_placeOf 30 = .ok (.ireturn, 1) := by decide +kernel
theorem dX2_bitsAtEnds_0 : decode cX2_bitsAtEnds 0 = .ok (.aload_n 0, 1) := by decide +kernel
theorem dX2_bitsAtEnds_1 : decode cX2_bitsAtEnds 1 = .ok (.getfield 56, 3) := by decide +kernel
theorem dX2_bitsAtEnds_4 : decode cX2_bitsAtEnds 4 = .ok (.ifCond .ne 7, 3) := by decide +kernel
theorem dX2_bitsAtEnds_7 : decode cX2_bitsAtEnds 7 = .ok (.iconst 0, 1) := by decide +kernel
theorem dX2_bitsAtEnds_8 : decode cX2_bitsAtEnds 8 = .ok (.goto 18, 3) := by decide +kernel
theorem dX2_bitsAtEnds_11 : decode cX2_bitsAtEnds 11 = .ok (.iconst 1, 1) := by decide +kernel
theorem dX2_bitsAtEnds_12 : decode cX2_bitsAtEnds 12 = .ok (.aload_n 0, 1) := by decide +kernel
theorem dX2_bitsAtEnds_13 : decode cX2_bitsAtEnds 13 = .ok (.iconst 0, 1) := by decide +kernel
theorem dX2_bitsAtEnds_14 : decode cX2_bitsAtEnds 14 = .ok (.invokevirtual 74, 3) := by decide +kernel
theorem dX2_bitsAtEnds_17 : decode cX2_bitsAtEnds 17 = .ok (.ishl, 1) := by decide +kernel
theorem dX2_bitsAtEnds_18 : decode cX2_bitsAtEnds 18 = .ok (.iconst 1, 1) := by decide +kernel
theorem dX2_bitsAtEnds_19 : decode cX2_bitsAtEnds 19 = .ok (.aload_n 0, 1) := by decide +kernel
theorem dX2_bitsAtEnds_20 : decode cX2_bitsAtEnds 20 = .ok (.iconst 1, 1) := by decide +kernel
theorem dX2_bitsAtEnds_21 : decode cX2_bitsAtEnds 21 = .ok (.invokevirtual 74, 3) := by decide +kernel
theorem dX2_bitsAtEnds_24 : decode cX2_bitsAtEnds 24 = .ok (.ishl, 1) := by decide +kernel
theorem dX2_bitsAtEnds_25 : decode cX2_bitsAtEnds 25 = .ok (.ior, 1) := by decide +kernel
theorem dX2_bitsAtEnds_26 : decode cX2_bitsAtEnds 26 = .ok (.ireturn, 1) := by decide +kernel
theorem dX2_rottenIn_0 : decode cX2_rottenIn 0 = .ok (.iconst 0, 1) := by decide +kernel
theorem dX2_rottenIn_1 : decode cX2_rottenIn 1 = .ok (.istore_n 2, 1) := by decide +kernel
theorem dX2_rottenIn_2 : decode cX2_rottenIn 2 = .ok (.iconst 0, 1) := by decide +kernel
theorem dX2_rottenIn_3 : decode cX2_rottenIn 3 = .ok (.istore_n 3, 1) := by decide +kernel
theorem dX2_rottenIn_4 : decode cX2_rottenIn 4 = .ok (.iload_n 3, 1) := by decide +kernel
theorem dX2_rottenIn_5 : decode cX2_rottenIn 5 = .ok (.aload_n 0, 1) := by decide +kernel
theorem dX2_rottenIn_6 : decode cX2_rottenIn 6 = .ok (.getfield 56, 3) := by decide +kernel
theorem dX2_rottenIn_9 : decode cX2_rottenIn 9 = .ok (.if_icmp .ge 34, 3) := by decide +kernel
theorem dX2_rottenIn_12 : decode cX2_rottenIn 12 = .ok (.aload_n 0, 1) := by decide +kernel
theorem dX2_rottenIn_13 : decode cX2_rottenIn 13 = .ok (.aload_n 0, 1) := by decide +kernel
theorem dX2_rottenIn_14 : decode cX2_rottenIn 14 = .ok (.getfield 36, 3) := by decide +kernel
theorem dX2_rottenIn_17 : decode cX2_rottenIn 17 = .ok (.iload_n 3, 1) := by decide +kernel
theorem dX2_rottenIn_18 : decode cX2_rottenIn 18 = .ok (.iaload, 1) := by decide +kernel
theorem dX2_rottenIn_19 : decode cX2_rottenIn 19 = .ok (.iload_n 1, 1) := by decide +kernel
theorem dX2_rottenIn_20 : decode cX2_rottenIn 20 = .ok (.invokevirtual 82, 3) := by decide +kernel
theorem dX2_rottenIn_23 : decode cX2_rottenIn 23 = .ok (.ifCond .ne 14, 3) := by decide +kernel
theorem dX2_rottenIn_26 : decode cX2_rottenIn 26 = .ok (.iload_n 2, 1) := by decide +kernel
theorem dX2_rottenIn_27 : decode cX2_rottenIn 27 = .ok (.iconst 1, 1) := by decide +kernel
theorem dX2_rottenIn_28 : decode cX2_rottenIn 28 = .ok (.aload_n 0, 1) := by decide +kernel
theorem dX2_rottenIn_29 : decode cX2_rottenIn 29 = .ok (.getfield 36, 3) := by decide +kernel
theorem dX2_rottenIn_32 : decode cX2_rottenIn 32 = .ok (.iload_n 3, 1) := by decide +kernel
theorem dX2_rottenIn_33 : decode cX2_rottenIn 33 = .ok (.iaload, 1) := by decide +kernel
theorem dX2_rottenIn_34 : decode cX2_rottenIn 34 = .ok (.ishl, 1) := by decide +kernel
theorem dX2_rottenIn_35 : decode cX2_rottenIn 35 = .ok (.ior, 1) := by decide +kernel
theorem dX2_rottenIn_36 : decode cX2_rottenIn 36 = .ok (.istore_n 2, 1) := by decide +kernel
theorem dX2_rottenIn_37 : decode cX2_rottenIn 37 = .ok (.iinc 3 1, 3) := by decide +kernel
theorem dX2_rottenIn_40 : decode cX2_rottenIn 40 = .ok (.goto (-36), 3) := by decide +kernel
theorem dX2_rottenIn_43 : decode cX2_rottenIn 43 = .ok (.iload_n 2, 1) := by decide +kernel
theorem dX2_rottenIn_44 : decode cX2_rottenIn 44 = .ok (.ireturn, 1) := by decide +kernel
theorem dX2_valueIn_0 : decode cX2_valueIn 0 = .ok (.iconst 0, 1) := by decide +kernel
theorem dX2_valueIn_1 : decode cX2_valueIn 1 = .ok (.aload_n 0, 1) := by decide +kernel
theorem dX2_valueIn_2 : decode cX2_valueIn 2 = .ok (.getfield 24, 3) := by decide +kernel
theorem dX2_valueIn_5 : decode cX2_valueIn 5 = .ok (.iload_n 1, 1) := by decide +kernel
theorem dX2_valueIn_6 : decode cX2_valueIn 6 = .ok (.iaload, 1) := by decide +kernel
theorem dX2_valueIn_7 : decode cX2_valueIn 7 = .ok (.aload_n 0, 1) := by decide +kernel
theorem dX2_valueIn_8 : decode cX2_valueIn 8 = .ok (.getfield 27, 3) := by decide +kernel
theorem dX2_valueIn_11 : decode cX2_valueIn 11 = .ok (.iload_n 1, 1) := by decide +kernel
theorem dX2_valueIn_12 : decode cX2_valueIn 12 = .ok (.iaload, 1) := by decide +kernel
theorem dX2_valueIn_13 : decode cX2_valueIn 13 = .ok (.aload_n 0, 1) := by decide +kernel
theorem dX2_valueIn_14 : decode cX2_valueIn 14 = .ok (.getfield 30, 3) := by decide +kernel
theorem dX2_valueIn_17 : decode cX2_valueIn 17 = .ok (.iload_n 1, 1) := by decide +kernel
theorem dX2_valueIn_18 : decode cX2_valueIn 18 = .ok (.iaload, 1) := by decide +kernel
theorem dX2_valueIn_19 : decode cX2_valueIn 19 = .ok (.iload_n 2, 1) := by decide +kernel
theorem dX2_valueIn_20 : decode cX2_valueIn 20 = .ok (.iadd, 1) := by decide +kernel
theorem dX2_valueIn_21 : decode cX2_valueIn 21 = .ok (.invokestatic 86, 3) := by decide +kernel
theorem dX2_valueIn_24 : decode cX2_valueIn 24 = .ok (.invokestatic 89, 3) := by decide +kernel
theorem dX2_valueIn_27 : decode cX2_valueIn 27 = .ok (.ireturn, 1) := by decide +kernel
theorem dX2_valueTo_0 : decode cX2_valueTo 0 = .ok (.aload_n 0, 1) := by decide +kernel
theorem dX2_valueTo_1 : decode cX2_valueTo 1 = .ok (.iload_n 2, 1) := by decide +kernel
theorem dX2_valueTo_2 : decode cX2_valueTo 2 = .ok (.iload_n 3, 1) := by decide +kernel
theorem dX2_valueTo_3 : decode cX2_valueTo 3 = .ok (.invokevirtual 82, 3) := by decide +kernel
theorem dX2_valueTo_6 : decode cX2_valueTo 6 = .ok (.istore 4, 2) := by decide +kernel
theorem dX2_valueTo_8 : decode cX2_valueTo 8 = .ok (.aload_n 0, 1) := by decide +kernel
theorem dX2_valueTo_9 : decode cX2_valueTo 9 = .ok (.getfield 24, 3) := by decide +kernel
theorem dX2_valueTo_12 : decode cX2_valueTo 12 = .ok (.iload_n 2, 1) := by decide +kernel
theorem dX2_valueTo_13 : decode cX2_valueTo 13 = .ok (.iaload, 1) := by decide +kernel
theorem dX2_valueTo_14 : decode cX2_valueTo 14 = .ok (.aload_n 0, 1) := by decide +kernel
theorem dX2_valueTo_15 : decode cX2_valueTo 15 = .ok (.getfield 9, 3) := by decide +kernel
theorem dX2_valueTo_18 : decode cX2_valueTo 18 = .ok (.iload_n 1, 1) := by decide +kernel
theorem dX2_valueTo_19 : decode cX2_valueTo 19 = .ok (.iaload, 1) := by decide +kernel
theorem dX2_valueTo_20 : decode cX2_valueTo 20 = .ok (.invokestatic 94, 3) := by decide +kernel
theorem dX2_valueTo_23 : decode cX2_valueTo 23 = .ok (.ifCond .eq 10, 3) := by decide +kernel
theorem dX2_valueTo_26 : decode cX2_valueTo 26 = .ok (.iconst 2, 1) := by decide +kernel
theorem dX2_valueTo_27 : decode cX2_valueTo 27 = .ok (.iload 4, 2) := by decide +kernel
theorem dX2_valueTo_29 : decode cX2_valueTo 29 = .ok (.imul, 1) := by decide +kernel
theorem dX2_valueTo_30 : decode cX2_valueTo 30 = .ok (.goto 5, 3) := by decide +kernel
theorem dX2_valueTo_33 : decode cX2_valueTo 33 = .ok (.iload 4, 2) := by decide +kernel
theorem dX2_valueTo_35 : decode cX2_valueTo 35 = .ok (.ireturn, 1) := by decide +kernel
theorem dX2_ripened_0 : decode cX2_ripened 0 = .ok (.iload_n 0, 1) := by decide +kernel
theorem dX2_ripened_1 : decode cX2_ripened 1 = .ok (.tableswitch 72 1 5 #[35, 39, 60, 72, 66], 35) := by decide +kernel
theorem dX2_ripened_36 : decode cX2_ripened 36 = .ok (.iload_n 1, 1) := by decide +kernel
theorem dX2_ripened_37 : decode cX2_ripened 37 = .ok (.iload_n 2, 1) := by decide +kernel
theorem dX2_ripened_38 : decode cX2_ripened 38 = .ok (.isub, 1) := by decide +kernel
theorem dX2_ripened_39 : decode cX2_ripened 39 = .ok (.ireturn, 1) := by decide +kernel
theorem dX2_ripened_40 : decode cX2_ripened 40 = .ok (.iload_n 2, 1) := by decide +kernel
theorem dX2_ripened_41 : decode cX2_ripened 41 = .ok (.iconst 5, 1) := by decide +kernel
theorem dX2_ripened_42 : decode cX2_ripened 42 = .ok (.if_icmp .gt 9, 3) := by decide +kernel
theorem dX2_ripened_45 : decode cX2_ripened 45 = .ok (.iload_n 1, 1) := by decide +kernel
theorem dX2_ripened_46 : decode cX2_ripened 46 = .ok (.iload_n 2, 1) := by decide +kernel
theorem dX2_ripened_47 : decode cX2_ripened 47 = .ok (.iadd, 1) := by decide +kernel
theorem dX2_ripened_48 : decode cX2_ripened 48 = .ok (.goto 12, 3) := by decide +kernel
theorem dX2_ripened_51 : decode cX2_ripened 51 = .ok (.iload_n 1, 1) := by decide +kernel
theorem dX2_ripened_52 : decode cX2_ripened 52 = .ok (.iconst 5, 1) := by decide +kernel
theorem dX2_ripened_53 : decode cX2_ripened 53 = .ok (.iadd, 1) := by decide +kernel
theorem dX2_ripened_54 : decode cX2_ripened 54 = .ok (.iconst 2, 1) := by decide +kernel
theorem dX2_ripened_55 : decode cX2_ripened 55 = .ok (.iload_n 2, 1) := by decide +kernel
theorem dX2_ripened_56 : decode cX2_ripened 56 = .ok (.iconst 5, 1) := by decide +kernel
theorem dX2_ripened_57 : decode cX2_ripened 57 = .ok (.isub, 1) := by decide +kernel
theorem dX2_ripened_58 : decode cX2_ripened 58 = .ok (.imul, 1) := by decide +kernel
theorem dX2_ripened_59 : decode cX2_ripened 59 = .ok (.isub, 1) := by decide +kernel
theorem dX2_ripened_60 : decode cX2_ripened 60 = .ok (.ireturn, 1) := by decide +kernel
theorem dX2_ripened_61 : decode cX2_ripened 61 = .ok (.iload_n 1, 1) := by decide +kernel
theorem dX2_ripened_62 : decode cX2_ripened 62 = .ok (.iconst 2, 1) := by decide +kernel
theorem dX2_ripened_63 : decode cX2_ripened 63 = .ok (.iload_n 2, 1) := by decide +kernel
theorem dX2_ripened_64 : decode cX2_ripened 64 = .ok (.imul, 1) := by decide +kernel
theorem dX2_ripened_65 : decode cX2_ripened 65 = .ok (.isub, 1) := by decide +kernel
theorem dX2_ripened_66 : decode cX2_ripened 66 = .ok (.ireturn, 1) := by decide +kernel
theorem dX2_ripened_67 : decode cX2_ripened 67 = .ok (.iload_n 1, 1) := by decide +kernel
theorem dX2_ripened_68 : decode cX2_ripened 68 = .ok (.iload_n 2, 1) := by decide +kernel
theorem dX2_ripened_69 : decode cX2_ripened 69 = .ok (.iconst 3, 1) := by decide +kernel
theorem dX2_ripened_70 : decode cX2_ripened 70 = .ok (.idiv, 1) := by decide +kernel
theorem dX2_ripened_71 : decode cX2_ripened 71 = .ok (.iadd, 1) := by decide +kernel
theorem dX2_ripened_72 : decode cX2_ripened 72 = .ok (.ireturn, 1) := by decide +kernel
theorem dX2_ripened_73 : decode cX2_ripened 73 = .ok (.iload_n 1, 1) := by decide +kernel
theorem dX2_ripened_74 : decode cX2_ripened 74 = .ok (.ireturn, 1) := by decide +kernel
theorem dX2_putAt_0 : decode cX2_putAt 0 = .ok (.iload_n 1, 1) := by decide +kernel
theorem dX2_putAt_1 : decode cX2_putAt 1 = .ok (.ifCond .ne 30, 3) := by decide +kernel
theorem dX2_putAt_4 : decode cX2_putAt 4 = .ok (.aload_n 0, 1) := by decide +kernel
theorem dX2_putAt_5 : decode cX2_putAt 5 = .ok (.getfield 36, 3) := by decide +kernel
theorem dX2_putAt_8 : decode cX2_putAt 8 = .ok (.iconst 0, 1) := by decide +kernel
theorem dX2_putAt_9 : decode cX2_putAt 9 = .ok (.aload_n 0, 1) := by decide +kernel
theorem dX2_putAt_10 : decode cX2_putAt 10 = .ok (.getfield 36, 3) := by decide +kernel
theorem dX2_putAt_13 : decode cX2_putAt 13 = .ok (.iconst 1, 1) := by decide +kernel
theorem dX2_putAt_14 : decode cX2_putAt 14 = .ok (.aload_n 0, 1) := by decide +kernel
theorem dX2_putAt_15 : decode cX2_putAt 15 = .ok (.getfield 56, 3) := by decide +kernel
theorem dX2_putAt_18 : decode cX2_putAt 18 = .ok (.invokestatic 59, 3) := by decide +kernel
theorem dX2_putAt_21 : decode cX2_putAt 21 = .ok (.aload_n 0, 1) := by decide +kernel
theorem dX2_putAt_22 : decode cX2_putAt 22 = .ok (.getfield 36, 3) := by decide +kernel
theorem dX2_putAt_25 : decode cX2_putAt 25 = .ok (.iconst 0, 1) := by decide +kernel
theorem dX2_putAt_26 : decode cX2_putAt 26 = .ok (.iload_n 2, 1) := by decide +kernel
theorem dX2_putAt_27 : decode cX2_putAt 27 = .ok (.iastore, 1) := by decide +kernel
theorem dX2_putAt_28 : decode cX2_putAt 28 = .ok (.goto 13, 3) := by decide +kernel
theorem dX2_putAt_31 : decode cX2_putAt 31 = .ok (.aload_n 0, 1) := by decide +kernel
theorem dX2_putAt_32 : decode cX2_putAt 32 = .ok (.getfield 36, 3) := by decide +kernel
theorem dX2_putAt_35 : decode cX2_putAt 35 = .ok (.aload_n 0, 1) := by decide +kernel
theorem dX2_putAt_36 : decode cX2_putAt 36 = .ok (.getfield 56, 3) := by decide +kernel
theorem dX2_putAt_39 : decode cX2_putAt 39 = .ok (.iload_n 2, 1) := by decide +kernel
theorem dX2_putAt_40 : decode cX2_putAt 40 = .ok (.iastore, 1) := by decide +kernel
theorem dX2_putAt_41 : decode cX2_putAt 41 = .ok (.aload_n 0, 1) := by decide +kernel
theorem dX2_putAt_42 : decode cX2_putAt 42 = .ok (.dup, 1) := by decide +kernel
theorem dX2_putAt_43 : decode cX2_putAt 43 = .ok (.getfield 56, 3) := by decide +kernel
theorem dX2_putAt_46 : decode cX2_putAt 46 = .ok (.iconst 1, 1) := by decide +kernel
theorem dX2_putAt_47 : decode cX2_putAt 47 = .ok (.iadd, 1) := by decide +kernel
theorem dX2_putAt_48 : decode cX2_putAt 48 = .ok (.putfield 56, 3) := by decide +kernel
theorem dX2_putAt_51 : decode cX2_putAt 51 = .ok (.return_, 1) := by decide +kernel
theorem dX2_removeAt_0 : decode cX2_removeAt 0 = .ok (.aload_n 0, 1) := by decide +kernel
theorem dX2_removeAt_1 : decode cX2_removeAt 1 = .ok (.dup, 1) := by decide +kernel
theorem dX2_removeAt_2 : decode cX2_removeAt 2 = .ok (.getfield 56, 3) := by decide +kernel
theorem dX2_removeAt_5 : decode cX2_removeAt 5 = .ok (.iconst 1, 1) := by decide +kernel
theorem dX2_removeAt_6 : decode cX2_removeAt 6 = .ok (.isub, 1) := by decide +kernel
theorem dX2_removeAt_7 : decode cX2_removeAt 7 = .ok (.putfield 56, 3) := by decide +kernel
theorem dX2_removeAt_10 : decode cX2_removeAt 10 = .ok (.iload_n 1, 1) := by decide +kernel
theorem dX2_removeAt_11 : decode cX2_removeAt 11 = .ok (.ifCond .ne 20, 3) := by decide +kernel
theorem dX2_removeAt_14 : decode cX2_removeAt 14 = .ok (.aload_n 0, 1) := by decide +kernel
theorem dX2_removeAt_15 : decode cX2_removeAt 15 = .ok (.getfield 36, 3) := by decide +kernel
theorem dX2_removeAt_18 : decode cX2_removeAt 18 = .ok (.iconst 1, 1) := by decide +kernel
theorem dX2_removeAt_19 : decode cX2_removeAt 19 = .ok (.aload_n 0, 1) := by decide +kernel
theorem dX2_removeAt_20 : decode cX2_removeAt 20 = .ok (.getfield 36, 3) := by decide +kernel
theorem dX2_removeAt_23 : decode cX2_removeAt 23 = .ok (.iconst 0, 1) := by decide +kernel
theorem dX2_removeAt_24 : decode cX2_removeAt 24 = .ok (.aload_n 0, 1) := by decide +kernel
theorem dX2_removeAt_25 : decode cX2_removeAt 25 = .ok (.getfield 56, 3) := by decide +kernel
theorem dX2_removeAt_28 : decode cX2_removeAt 28 = .ok (.invokestatic 59, 3) := by decide +kernel
theorem dX2_removeAt_31 : decode cX2_removeAt 31 = .ok (.return_, 1) := by decide +kernel
theorem dX3_init_0 : decode cX3_init 0 = .ok (.aload_n 0, 1) := by decide +kernel
theorem dX3_init_1 : decode cX3_init 1 = .ok (.invokespecial 3, 3) := by decide +kernel
theorem dX3_init_4 : decode cX3_init 4 = .ok (.aload_n 0, 1) := by decide +kernel
theorem dX3_init_5 : decode cX3_init 5 = .ok (.bipush 40, 2) := by decide +kernel
theorem dX3_init_7 : decode cX3_init 7 = .ok (.newarray .int, 2) := by decide +kernel
theorem dX3_init_9 : decode cX3_init 9 = .ok (.putfield 9, 3) := by decide +kernel
theorem dX3_init_12 : decode cX3_init 12 = .ok (.return_, 1) := by decide +kernel
theorem dX3_begin_0 : decode cX3_begin 0 = .ok (.aload_n 0, 1) := by decide +kernel
theorem dX3_begin_1 : decode cX3_begin 1 = .ok (.iconst 1, 1) := by decide +kernel
theorem dX3_begin_2 : decode cX3_begin 2 = .ok (.putfield 15, 3) := by decide +kernel
theorem dX3_begin_5 : decode cX3_begin 5 = .ok (.aload_n 0, 1) := by decide +kernel
theorem dX3_begin_6 : decode cX3_begin 6 = .ok (.iload_n 1, 1) := by decide +kernel
theorem dX3_begin_7 : decode cX3_begin 7 = .ok (.putfield 19, 3) := by decide +kernel
theorem dX3_begin_10 : decode cX3_begin 10 = .ok (.aload_n 0, 1) := by decide +kernel
theorem dX3_begin_11 : decode cX3_begin 11 = .ok (.iload_n 2, 1) := by decide +kernel
theorem dX3_begin_12 : decode cX3_begin 12 = .ok (.putfield 23, 3) := by decide +kernel
theorem dX3_begin_15 : decode cX3_begin 15 = .ok (.aload_n 0, 1) := by decide +kernel
theorem dX3_begin_16 : decode cX3_begin 16 = .ok (.getfield 9, 3) := by decide +kernel
theorem dX3_begin_19 : decode cX3_begin 19 = .ok (.iconst 0, 1) := by decide +kernel
theorem dX3_begin_20 : decode cX3_begin 20 = .ok (.invokestatic 26, 3) := by decide +kernel
theorem dX3_begin_23 : decode cX3_begin 23 = .ok (.return_, 1) := by decide +kernel
theorem dX3_put_0 : decode cX3_put 0 = .ok (.aload_n 0, 1) := by decide +kernel
theorem dX3_put_1 : decode cX3_put 1 = .ok (.getfield 9, 3) := by decide +kernel
theorem dX3_put_4 : decode cX3_put 4 = .ok (.iload_n 1, 1) := by decide +kernel
theorem dX3_put_5 : decode cX3_put 5 = .ok (.aload_n 0, 1) := by decide +kernel
theorem dX3_put_6 : decode cX3_put 6 = .ok (.iload_n 2, 1) := by decide +kernel
theorem dX3_put_7 : decode cX3_put 7 = .ok (.invokevirtual 32, 3) := by decide +kernel
theorem dX3_put_10 : decode cX3_put 10 = .ok (.iastore, 1) := by decide +kernel
theorem dX3_put_11 : decode cX3_put 11 = .ok (.aload_n 0, 1) := by decide +kernel
theorem dX3_put_12 : decode cX3_put 12 = .ok (.getfield 9, 3) := by decide +kernel
theorem dX3_put_15 : decode cX3_put 15 = .ok (.iload_n 1, 1) := by decide +kernel
theorem dX3_put_16 : decode cX3_put 16 = .ok (.iaload, 1) := by decide +kernel
theorem dX3_put_17 : decode cX3_put 17 = .ok (.ireturn, 1) := by decide +kernel
theorem dX3_cutToLane_0 : decode cX3_cutToLane 0 = .ok (.aload_n 0, 1) := by decide +kernel
theorem dX3_cutToLane_1 : decode cX3_cutToLane 1 = .ok (.getfield 19, 3) := by decide +kernel
theorem dX3_cutToLane_4 : decode cX3_cutToLane 4 = .ok (.lookupswitch 34 #[(0, 28), (1, 31)], 28) := by decide +kernel
theorem dX3_cutToLane_32 : decode cX3_cutToLane 32 = .ok (.iload_n 1, 1) := by decide +kernel
theorem dX3_cutToLane_33 : decode cX3_cutToLane 33 = .ok (.i2b, 1) := by decide +kernel
theorem dX3_cutToLane_34 : decode cX3_cutToLane 34 = .ok (.ireturn, 1) := by decide +kernel
theorem dX3_cutToLane_35 : decode cX3_cutToLane 35 = .ok (.iload_n 1, 1) := by decide +kernel
theorem dX3_cutToLane_36 : decode cX3_cutToLane 36 = .ok (.i2s, 1) := by decide +kernel
theorem dX3_cutToLane_37 : decode cX3_cutToLane 37 = .ok (.ireturn, 1) := by decide +kernel
theorem dX3_cutToLane_38 : decode cX3_cutToLane 38 = .ok (.iload_n 1, 1) := by decide +kernel
theorem dX3_cutToLane_39 : decode cX3_cutToLane 39 = .ok (.ireturn, 1) := by decide +kernel
theorem dX3_reaches_0 : decode cX3_reaches 0 = .ok (.iload_n 1, 1) := by decide +kernel
theorem dX3_reaches_1 : decode cX3_reaches 1 = .ok (.ifCond .lt 29, 3) := by decide +kernel
theorem dX3_reaches_4 : decode cX3_reaches 4 = .ok (.iload_n 2, 1) := by decide +kernel
theorem dX3_reaches_5 : decode cX3_reaches 5 = .ok (.ifCond .lt 25, 3) := by decide +kernel
theorem dX3_reaches_8 : decode cX3_reaches 8 = .ok (.iload_n 1, 1) := by decide +kernel
theorem dX3_reaches_9 : decode cX3_reaches 9 = .ok (.aload_n 0, 1) := by decide +kernel
theorem dX3_reaches_10 : decode cX3_reaches 10 = .ok (.getfield 23, 3) := by decide +kernel
theorem dX3_reaches_13 : decode cX3_reaches 13 = .ok (.if_icmp .gt 17, 3) := by decide +kernel
theorem dX3_reaches_16 : decode cX3_reaches 16 = .ok (.iload_n 2, 1) := by decide +kernel
theorem dX3_reaches_17 : decode cX3_reaches 17 = .ok (.aload_n 0, 1) := by decide +kernel
theorem dX3_reaches_18 : decode cX3_reaches 18 = .ok (.getfield 23, 3) := by decide +kernel
theorem dX3_reaches_21 : decode cX3_reaches 21 = .ok (.iload_n 1, 1) := by decide +kernel
theorem dX3_reaches_22 : decode cX3_reaches 22 = .ok (.isub, 1) := by decide +kernel
theorem dX3_reaches_23 : decode cX3_reaches 23 = .ok (.if_icmp .gt 7, 3) := by decide +kernel
theorem dX3_reaches_26 : decode cX3_reaches 26 = .ok (.iconst 1, 1) := by decide +kernel
theorem dX3_reaches_27 : decode cX3_reaches 27 = .ok (.goto 4, 3) := by decide +kernel
theorem dX3_reaches_30 : decode cX3_reaches 30 = .ok (.iconst 0, 1) := by decide +kernel
theorem dX3_reaches_31 : decode cX3_reaches 31 = .ok (.ireturn, 1) := by decide +kernel
theorem dX3_isBelow_0 : decode cX3_isBelow 0 = .ok (.iload_n 2, 1) := by decide +kernel
theorem dX3_isBelow_1 : decode cX3_isBelow 1 = .ok (.istore 4, 2) := by decide +kernel
theorem dX3_isBelow_3 : decode cX3_isBelow 3 = .ok (.iload 4, 2) := by decide +kernel
theorem dX3_isBelow_5 : decode cX3_isBelow 5 = .ok (.iload_n 2, 1) := by decide +kernel
theorem dX3_isBelow_6 : decode cX3_isBelow 6 = .ok (.iload_n 3, 1) := by decide +kernel
theorem dX3_isBelow_7 : decode cX3_isBelow 7 = .ok (.iadd, 1) := by decide +kernel
theorem dX3_isBelow_8 : decode cX3_isBelow 8 = .ok (.if_icmp .ge 32, 3) := by decide +kernel
theorem dX3_isBelow_11 : decode cX3_isBelow 11 = .ok (.aload_n 0, 1) := by decide +kernel
theorem dX3_isBelow_12 : decode cX3_isBelow 12 = .ok (.getfield 9, 3) := by decide +kernel
theorem dX3_isBelow_15 : decode cX3_isBelow 15 = .ok (.iload 4, 2) := by decide +kernel
theorem dX3_isBelow_17 : decode cX3_isBelow 17 = .ok (.iaload, 1) := by decide +kernel
theorem dX3_isBelow_18 : decode cX3_isBelow 18 = .ok (.ifCond .lt 14, 3) := by decide +kernel
theorem dX3_isBelow_21 : decode cX3_isBelow 21 = .ok (.aload_n 0, 1) := by decide +kernel
theorem dX3_isBelow_22 : decode cX3_isBelow 22 = .ok (.getfield 9, 3) := by decide +kernel
theorem dX3_isBelow_25 : decode cX3_isBelow 25 = .ok (.iload 4, 2) := by decide +kernel
theorem dX3_isBelow_27 : decode cX3_isBelow 27 = .ok (.iaload, 1) := by decide +kernel
theorem dX3_isBelow_28 : decode cX3_isBelow 28 = .ok (.iload_n 1, 1) := by decide +kernel
theorem dX3_isBelow_29 : decode cX3_isBelow 29 = .ok (.if_icmp .lt 5, 3) := by decide +kernel
theorem dX3_isBelow_32 : decode cX3_isBelow 32 = .ok (.iconst 0, 1) := by decide +kernel
theorem dX3_isBelow_33 : decode cX3_isBelow 33 = .ok (.ireturn, 1) := by decide +kernel
theorem dX3_isBelow_34 : decode cX3_isBelow 34 = .ok (.iinc 4 1, 3) := by decide +kernel
theorem dX3_isBelow_37 : decode cX3_isBelow 37 = .ok (.goto (-34), 3) := by decide +kernel
theorem dX3_isBelow_40 : decode cX3_isBelow 40 = .ok (.iconst 1, 1) := by decide +kernel
theorem dX3_isBelow_41 : decode cX3_isBelow 41 = .ok (.ireturn, 1) := by decide +kernel
theorem dX4_init_0 : decode cX4_init 0 = .ok (.aload_n 0, 1) := by decide +kernel
theorem dX4_init_1 : decode cX4_init 1 = .ok (.invokespecial 3, 3) := by decide +kernel
theorem dX4_init_4 : decode cX4_init 4 = .ok (.aload_n 0, 1) := by decide +kernel
theorem dX4_init_5 : decode cX4_init 5 = .ok (.bipush 17, 2) := by decide +kernel
theorem dX4_init_7 : decode cX4_init 7 = .ok (.newarray .int, 2) := by decide +kernel
theorem dX4_init_9 : decode cX4_init 9 = .ok (.putfield 9, 3) := by decide +kernel
theorem dX4_init_12 : decode cX4_init 12 = .ok (.aload_n 0, 1) := by decide +kernel
theorem dX4_init_13 : decode cX4_init 13 = .ok (.bipush 17, 2) := by decide +kernel
theorem dX4_init_15 : decode cX4_init 15 = .ok (.newarray .int, 2) := by decide +kernel
theorem dX4_init_17 : decode cX4_init 17 = .ok (.putfield 15, 3) := by decide +kernel
theorem dX4_init_20 : decode cX4_init 20 = .ok (.aload_n 0, 1) := by decide +kernel
theorem dX4_init_21 : decode cX4_init 21 = .ok (.bipush 11, 2) := by decide +kernel
theorem dX4_init_23 : decode cX4_init 23 = .ok (.newarray .int, 2) := by decide +kernel
theorem dX4_init_25 : decode cX4_init 25 = .ok (.putfield 18, 3) := by decide +kernel
theorem dX4_init_28 : decode cX4_init 28 = .ok (.aload_n 0, 1) := by decide +kernel
theorem dX4_init_29 : decode cX4_init 29 = .ok (.bipush 17, 2) := by decide +kernel
theorem dX4_init_31 : decode cX4_init 31 = .ok (.newarray .int, 2) := by decide +kernel
theorem dX4_init_33 : decode cX4_init 33 = .ok (.putfield 21, 3) := by decide +kernel
theorem dX4_init_36 : decode cX4_init 36 = .ok (.return_, 1) := by decide +kernel
theorem dX4_behindLine_0 : decode cX4_behindLine 0 = .ok (.iconst 0, 1) := by decide +kernel
theorem dX4_behindLine_1 : decode cX4_behindLine 1 = .ok (.istore 6, 2) := by decide +kernel
theorem dX4_behindLine_3 : decode cX4_behindLine 3 = .ok (.aload_n 1, 1) := by decide +kernel
theorem dX4_behindLine_4 : decode cX4_behindLine 4 = .ok (.getfield 24, 3) := by decide +kernel
theorem dX4_behindLine_7 : decode cX4_behindLine 7 = .ok (.iconst 1, 1) := by decide +kernel
theorem dX4_behindLine_8 : decode cX4_behindLine 8 = .ok (.isub, 1) := by decide +kernel
theorem dX4_behindLine_9 : decode cX4_behindLine 9 = .ok (.istore 7, 2) := by decide +kernel
theorem dX4_behindLine_11 : decode cX4_behindLine 11 = .ok (.iconst 0, 1) := by decide +kernel
theorem dX4_behindLine_12 : decode cX4_behindLine 12 = .ok (.istore 8, 2) := by decide +kernel
theorem dX4_behindLine_14 : decode cX4_behindLine 14 = .ok (.iload_n 3, 1) := by decide +kernel
theorem dX4_behindLine_15 : decode cX4_behindLine 15 = .ok (.istore 9, 2) := by decide +kernel
theorem dX4_behindLine_17 : decode cX4_behindLine 17 = .ok (.iload 9, 2) := by decide +kernel
theorem dX4_behindLine_19 : decode cX4_behindLine 19 = .ok (.iload_n 3, 1) := by decide +kernel
theorem dX4_behindLine_20 : decode cX4_behindLine 20 = .ok (.iload 4, 2) := by decide +kernel
theorem dX4_behindLine_22 : decode cX4_behindLine 22 = .ok (.iadd, 1) := by decide +kernel
theorem dX4_behindLine_23 : decode cX4_behindLine 23 = .ok (.if_icmp .ge 92, 3) := by decide +kernel
theorem dX4_behindLine_26 : decode cX4_behindLine 26 = .ok (.iload 6, 2) := by decide +kernel
theorem dX4_behindLine_28 : decode cX4_behindLine 28 = .ok (.iload 7, 2) := by decide +kernel
theorem dX4_behindLine_30 : decode cX4_behindLine 30 = .ok (.if_icmp .gt 85, 3) := by decide +kernel
theorem dX4_behindLine_33 : decode cX4_behindLine 33 = .ok (.aload_n 2, 1) := by decide +kernel
theorem dX4_behindLine_34 : decode cX4_behindLine 34 = .ok (.getfield 30, 3) := by decide +kernel
theorem dX4_behindLine_37 : decode cX4_behindLine 37 = .ok (.iload 9, 2) := by decide +kernel
theorem dX4_behindLine_39 : decode cX4_behindLine 39 = .ok (.iaload, 1) := by decide +kernel
theorem dX4_behindLine_40 : decode cX4_behindLine 40 = .ok (.istore 10, 2) := by decide +kernel
theorem dX4_behindLine_42 : decode cX4_behindLine 42 = .ok (.aload_n 1, 1) := by decide +kernel
theorem dX4_behindLine_43 : decode cX4_behindLine 43 = .ok (.iload 10, 2) := by decide +kernel
theorem dX4_behindLine_45 : decode cX4_behindLine 45 = .ok (.aload_n 1, 1) := by decide +kernel
theorem dX4_behindLine_46 : decode cX4_behindLine 46 = .ok (.getfield 35, 3) := by decide +kernel
theorem dX4_behindLine_49 : decode cX4_behindLine 49 = .ok (.iload 6, 2) := by decide +kernel
theorem dX4_behindLine_51 : decode cX4_behindLine 51 = .ok (.iaload, 1) := by decide +kernel
theorem dX4_behindLine_52 : decode cX4_behindLine 52 = .ok (.iconst 0, 1) := by decide +kernel
theorem dX4_behindLine_53 : decode cX4_behindLine 53 = .ok (.invokevirtual 38, 3) := by decide +kernel
theorem dX4_behindLine_56 : decode cX4_behindLine 56 = .ok (.istore 11, 2) := by decide +kernel
theorem dX4_behindLine_58 : decode cX4_behindLine 58 = .ok (.aload_n 1, 1) := by decide +kernel
theorem dX4_behindLine_59 : decode cX4_behindLine 59 = .ok (.iload 10, 2) := by decide +kernel
theorem dX4_behindLine_61 : decode cX4_behindLine 61 = .ok (.aload_n 1, 1) := by decide +kernel
theorem dX4_behindLine_62 : decode cX4_behindLine 62 = .ok (.getfield 35, 3) := by decide +kernel
theorem dX4_behindLine_65 : decode cX4_behindLine 65 = .ok (.iload 7, 2) := by decide +kernel
theorem dX4_behindLine_67 : decode cX4_behindLine 67 = .ok (.iaload, 1) := by decide +kernel
theorem dX4_behindLine_68 : decode cX4_behindLine 68 = .ok (.iconst 0, 1) := by decide +kernel
theorem dX4_behindLine_69 : decode cX4_behindLine 69 = .ok (.invokevirtual 38, 3) := by decide +kernel
theorem dX4_behindLine_72 : decode cX4_behindLine 72 = .ok (.istore 12, 2) := by decide +kernel
theorem dX4_behindLine_74 : decode cX4_behindLine 74 = .ok (.iload 10, 2) := by decide +kernel
theorem dX4_behindLine_76 : decode cX4_behindLine 76 = .ok (.iload 5, 2) := by decide +kernel
theorem dX4_behindLine_78 : decode cX4_behindLine 78 = .ok (.if_icmp .ne 15, 3) := by decide +kernel
theorem dX4_behindLine_81 : decode cX4_behindLine 81 = .ok (.iload 8, 2) := by decide +kernel
theorem dX4_behindLine_83 : decode cX4_behindLine 83 = .ok (.iload 11, 2) := by decide +kernel
theorem dX4_behindLine_85 : decode cX4_behindLine 85 = .ok (.iload 12, 2) := by decide +kernel
theorem dX4_behindLine_87 : decode cX4_behindLine 87 = .ok (.invokestatic 42, 3) := by decide +kernel
theorem dX4_behindLine_90 : decode cX4_behindLine 90 = .ok (.iadd, 1) := by decide +kernel
theorem dX4_behindLine_91 : decode cX4_behindLine 91 = .ok (.istore 8, 2) := by decide +kernel
theorem dX4_behindLine_93 : decode cX4_behindLine 93 = .ok (.iload 12, 2) := by decide +kernel
theorem dX4_behindLine_95 : decode cX4_behindLine 95 = .ok (.iload 11, 2) := by decide +kernel
theorem dX4_behindLine_97 : decode cX4_behindLine 97 = .ok (.if_icmp .le 9, 3) := by decide +kernel
theorem dX4_behindLine_100 : decode cX4_behindLine 100 = .ok (.iinc 7 (-1), 3) := by decide +kernel
theorem dX4_behindLine_103 : decode cX4_behindLine 103 = .ok (.goto 6, 3) := by decide +kernel
theorem dX4_behindLine_106 : decode cX4_behindLine 106 = .ok (.iinc 6 1, 3) := by decide +kernel
theorem dX4_behindLine_109 : decode cX4_behindLine 109 = .ok (.iinc 9 1, 3) := by decide +kernel
theorem dX4_behindLine_112 : decode cX4_behindLine 112 = .ok (.goto (-95), 3) := by decide +kernel
theorem dX4_behindLine_115 : decode cX4_behindLine 115 = .ok (.iload 5, 2) := by decide +kernel
theorem dX4_behindLine_117 : decode cX4_behindLine 117 = .ok (.ifCond .ge 13, 3) := by decide +kernel
theorem dX4_behindLine_120 : decode cX4_behindLine 120 = .ok (.iload 7, 2) := by decide +kernel
theorem dX4_behindLine_122 : decode cX4_behindLine 122 = .ok (.iload 6, 2) := by decide +kernel
theorem dX4_behindLine_124 : decode cX4_behindLine 124 = .ok (.isub, 1) := by decide +kernel
theorem dX4_behindLine_125 : decode cX4_behindLine 125 = .ok (.iconst 1, 1) := by decide +kernel
theorem dX4_behindLine_126 : decode cX4_behindLine 126 = .ok (.iadd, 1) := by decide +kernel
theorem dX4_behindLine_127 : decode cX4_behindLine 127 = .ok (.goto 5, 3) := by decide +kernel
theorem dX4_behindLine_130 : decode cX4_behindLine 130 = .ok (.iload 8, 2) := by decide +kernel
theorem dX4_behindLine_132 : decode cX4_behindLine 132 = .ok (.ireturn, 1) := by decide +kernel
theorem dX4_fewestTill_0 : decode cX4_fewestTill 0 = .ok (.iload_n 2, 1) := by decide +kernel
theorem dX4_fewestTill_1 : decode cX4_fewestTill 1 = .ok (.iconst 1, 1) := by decide +kernel
theorem dX4_fewestTill_2 : decode cX4_fewestTill 2 = .ok (.iadd, 1) := by decide +kernel
theorem dX4_fewestTill_3 : decode cX4_fewestTill 3 = .ok (.aload_n 1, 1) := by decide +kernel
theorem dX4_fewestTill_4 : decode cX4_fewestTill 4 = .ok (.getfield 24, 3) := by decide +kernel
theorem dX4_fewestTill_7 : decode cX4_fewestTill 7 = .ok (.iload_n 2, 1) := by decide +kernel
theorem dX4_fewestTill_8 : decode cX4_fewestTill 8 = .ok (.isub, 1) := by decide +kernel
theorem dX4_fewestTill_9 : decode cX4_fewestTill 9 = .ok (.invokestatic 48, 3) := by decide +kernel
theorem dX4_fewestTill_12 : decode cX4_fewestTill 12 = .ok (.ireturn, 1) := by decide +kernel
theorem dX4_leastAhead_0 : decode cX4_leastAhead 0 = .ok (.iconst 0, 1) := by decide +kernel
theorem dX4_leastAhead_1 : decode cX4_leastAhead 1 = .ok (.istore_n 3, 1) := by decide +kernel
theorem dX4_leastAhead_2 : decode cX4_leastAhead 2 = .ok (.iconst 0, 1) := by decide +kernel
theorem dX4_leastAhead_3 : decode cX4_leastAhead 3 = .ok (.istore 4, 2) := by decide +kernel
theorem dX4_leastAhead_5 : decode cX4_leastAhead 5 = .ok (.iconst 0, 1) := by decide +kernel
theorem dX4_leastAhead_6 : decode cX4_leastAhead 6 = .ok (.istore 5, 2) := by decide +kernel
theorem dX4_leastAhead_8 : decode cX4_leastAhead 8 = .ok (.iload 5, 2) := by decide +kernel
theorem dX4_leastAhead_10 : decode cX4_leastAhead 10 = .ok (.aload_n 1, 1) := by decide +kernel
theorem dX4_leastAhead_11 : decode cX4_leastAhead 11 = .ok (.getfield 24, 3) := by decide +kernel
theorem dX4_leastAhead_14 : decode cX4_leastAhead 14 = .ok (.if_icmp .ge 50, 3) := by decide +kernel
theorem dX4_leastAhead_17 : decode cX4_leastAhead 17 = .ok (.aload_n 1, 1) := by decide +kernel
theorem dX4_leastAhead_18 : decode cX4_leastAhead 18 = .ok (.aload_n 1, 1) := by decide +kernel
theorem dX4_leastAhead_19 : decode cX4_leastAhead 19 = .ok (.getfield 35, 3) := by decide +kernel
theorem dX4_leastAhead_22 : decode cX4_leastAhead 22 = .ok (.iload 5, 2) := by decide +kernel
theorem dX4_leastAhead_24 : decode cX4_leastAhead 24 = .ok (.iaload, 1) := by decide +kernel
theorem dX4_leastAhead_25 : decode cX4_leastAhead 25 = .ok (.iconst 0, 1) := by decide +kernel
theorem dX4_leastAhead_26 : decode cX4_leastAhead 26 = .ok (.invokevirtual 51, 3) := by decide +kernel
theorem dX4_leastAhead_29 : decode cX4_leastAhead 29 = .ok (.istore 6, 2) := by decide +kernel
theorem dX4_leastAhead_31 : decode cX4_leastAhead 31 = .ok (.iload 5, 2) := by decide +kernel
theorem dX4_leastAhead_33 : decode cX4_leastAhead 33 = .ok (.iload_n 2, 1) := by decide +kernel
theorem dX4_leastAhead_34 : decode cX4_leastAhead 34 = .ok (.if_icmp .ge 11, 3) := by decide +kernel
theorem dX4_leastAhead_37 : decode cX4_leastAhead 37 = .ok (.iload_n 3, 1) := by decide +kernel
theorem dX4_leastAhead_38 : decode cX4_leastAhead 38 = .ok (.iload 6, 2) := by decide +kernel
theorem dX4_leastAhead_40 : decode cX4_leastAhead 40 = .ok (.iadd, 1) := by decide +kernel
theorem dX4_leastAhead_41 : decode cX4_leastAhead 41 = .ok (.istore_n 3, 1) := by decide +kernel
theorem dX4_leastAhead_42 : decode cX4_leastAhead 42 = .ok (.goto 16, 3) := by decide +kernel
theorem dX4_leastAhead_45 : decode cX4_leastAhead 45 = .ok (.iload 5, 2) := by decide +kernel
theorem dX4_leastAhead_47 : decode cX4_leastAhead 47 = .ok (.iload_n 2, 1) := by decide +kernel
theorem dX4_leastAhead_48 : decode cX4_leastAhead 48 = .ok (.if_icmp .le 10, 3) := by decide +kernel
theorem dX4_leastAhead_51 : decode cX4_leastAhead 51 = .ok (.iload 4, 2) := by decide +kernel
theorem dX4_leastAhead_53 : decode cX4_leastAhead 53 = .ok (.iload 6, 2) := by decide +kernel
theorem dX4_leastAhead_55 : decode cX4_leastAhead 55 = .ok (.iadd, 1) := by decide +kernel
theorem dX4_leastAhead_56 : decode cX4_leastAhead 56 = .ok (.istore 4, 2) := by decide +kernel
theorem dX4_leastAhead_58 : decode cX4_leastAhead 58 = .ok (.iinc 5 1, 3) := by decide +kernel
theorem dX4_leastAhead_61 : decode cX4_leastAhead 61 = .ok (.goto (-53), 3) := by decide +kernel
theorem dX4_leastAhead_64 : decode cX4_leastAhead 64 = .ok (.iload_n 3, 1) := by decide +kernel
theorem dX4_leastAhead_65 : decode cX4_leastAhead 65 = .ok (.iload 4, 2) := by decide +kernel
theorem dX4_leastAhead_67 : decode cX4_leastAhead 67 = .ok (.invokestatic 48, 3) := by decide +kernel
theorem dX4_leastAhead_70 : decode cX4_leastAhead 70 = .ok (.ireturn, 1) := by decide +kernel
theorem dX4_harvestFor_0 : decode cX4_harvestFor 0 = .ok (.aload_n 0, 1) := by decide +kernel
theorem dX4_harvestFor_1 : decode cX4_harvestFor 1 = .ok (.getfield 9, 3) := by decide +kernel
theorem dX4_harvestFor_4 : decode cX4_harvestFor 4 = .ok (.iconst 0, 1) := by decide +kernel
theorem dX4_harvestFor_5 : decode cX4_harvestFor 5 = .ok (.invokestatic 54, 3) := by decide +kernel
theorem dX4_harvestFor_8 : decode cX4_harvestFor 8 = .ok (.aload_n 0, 1) := by decide +kernel
theorem dX4_harvestFor_9 : decode cX4_harvestFor 9 = .ok (.getfield 15, 3) := by decide +kernel
theorem dX4_harvestFor_12 : decode cX4_harvestFor 12 = .ok (.iconst 0, 1) := by decide +kernel
theorem dX4_harvestFor_13 : decode cX4_harvestFor 13 = .ok (.invokestatic 54, 3) := by decide +kernel
theorem dX4_harvestFor_16 : decode cX4_harvestFor 16 = .ok (.iconst 1, 1) := by decide +kernel
theorem dX4_harvestFor_17 : decode cX4_harvestFor 17 = .ok (.istore_n 3, 1) := by decide +kernel
theorem dX4_harvestFor_18 : decode cX4_harvestFor 18 = .ok (.iload_n 3, 1) := by decide +kernel
theorem dX4_harvestFor_19 : decode cX4_harvestFor 19 = .ok (.aload_n 1, 1) := by decide +kernel
theorem dX4_harvestFor_20 : decode cX4_harvestFor 20 = .ok (.getfield 24, 3) := by decide +kernel
theorem dX4_harvestFor_23 : decode cX4_harvestFor 23 = .ok (.if_icmp .gt 150, 3) := by decide +kernel
theorem dX4_harvestFor_26 : decode cX4_harvestFor 26 = .ok (.aload_n 1, 1) := by decide +kernel
theorem dX4_harvestFor_27 : decode cX4_harvestFor 27 = .ok (.getfield 24, 3) := by decide +kernel
theorem dX4_harvestFor_30 : decode cX4_harvestFor 30 = .ok (.iload_n 3, 1) := by decide +kernel
theorem dX4_harvestFor_31 : decode cX4_harvestFor 31 = .ok (.isub, 1) := by decide +kernel
theorem dX4_harvestFor_32 : decode cX4_harvestFor 32 = .ok (.istore 4, 2) := by decide +kernel
theorem dX4_harvestFor_34 : decode cX4_harvestFor 34 = .ok (.iconst 0, 1) := by decide +kernel
theorem dX4_harvestFor_35 : decode cX4_harvestFor 35 = .ok (.istore 5, 2) := by decide +kernel
theorem dX4_harvestFor_37 : decode cX4_harvestFor 37 = .ok (.iload 5, 2) := by decide +kernel
theorem dX4_harvestFor_39 : decode cX4_harvestFor 39 = .ok (.iload_n 3, 1) := by decide +kernel
theorem dX4_harvestFor_40 : decode cX4_harvestFor 40 = .ok (.iadd, 1) := by decide +kernel
theorem dX4_harvestFor_41 : decode cX4_harvestFor 41 = .ok (.aload_n 1, 1) := by decide +kernel
theorem dX4_harvestFor_42 : decode cX4_harvestFor 42 = .ok (.getfield 24, 3) := by decide +kernel
theorem dX4_harvestFor_45 : decode cX4_harvestFor 45 = .ok (.if_icmp .gt 122, 3) := by decide +kernel
theorem dX4_harvestFor_48 : decode cX4_harvestFor 48 = .ok (.aload_n 1, 1) := by decide +kernel
theorem dX4_harvestFor_49 : decode cX4_harvestFor 49 = .ok (.getfield 35, 3) := by decide +kernel
theorem dX4_harvestFor_52 : decode cX4_harvestFor 52 = .ok (.iload 5, 2) := by decide +kernel
theorem dX4_harvestFor_54 : decode cX4_harvestFor 54 = .ok (.iload_n 3, 1) := by decide +kernel
theorem dX4_harvestFor_55 : decode cX4_harvestFor 55 = .ok (.iadd, 1) := by decide +kernel
theorem dX4_harvestFor_56 : decode cX4_harvestFor 56 = .ok (.iconst 1, 1) := by decide +kernel
theorem dX4_harvestFor_57 : decode cX4_harvestFor 57 = .ok (.isub, 1) := by decide +kernel
theorem dX4_harvestFor_58 : decode cX4_harvestFor 58 = .ok (.iaload, 1) := by decide +kernel
theorem dX4_harvestFor_59 : decode cX4_harvestFor 59 = .ok (.istore 6, 2) := by decide +kernel
theorem dX4_harvestFor_61 : decode cX4_harvestFor 61 = .ok (.aload_n 1, 1) := by decide +kernel
theorem dX4_harvestFor_62 : decode cX4_harvestFor 62 = .ok (.iload_n 2, 1) := by decide +kernel
theorem dX4_harvestFor_63 : decode cX4_harvestFor 63 = .ok (.aload_n 1, 1) := by decide +kernel
theorem dX4_harvestFor_64 : decode cX4_harvestFor 64 = .ok (.getfield 35, 3) := by decide +kernel
theorem dX4_harvestFor_67 : decode cX4_harvestFor 67 = .ok (.iload 5, 2) := by decide +kernel
theorem dX4_harvestFor_69 : decode cX4_harvestFor 69 = .ok (.iaload, 1) := by decide +kernel
theorem dX4_harvestFor_70 : decode cX4_harvestFor 70 = .ok (.iload 4, 2) := by decide +kernel
theorem dX4_harvestFor_72 : decode cX4_harvestFor 72 = .ok (.invokevirtual 38, 3) := by decide +kernel
theorem dX4_harvestFor_75 : decode cX4_harvestFor 75 = .ok (.aload_n 0, 1) := by decide +kernel
theorem dX4_harvestFor_76 : decode cX4_harvestFor 76 = .ok (.getfield 9, 3) := by decide +kernel
theorem dX4_harvestFor_79 : decode cX4_harvestFor 79 = .ok (.iload 5, 2) := by decide +kernel
theorem dX4_harvestFor_81 : decode cX4_harvestFor 81 = .ok (.iconst 1, 1) := by decide +kernel
theorem dX4_harvestFor_82 : decode cX4_harvestFor 82 = .ok (.iadd, 1) := by decide +kernel
theorem dX4_harvestFor_83 : decode cX4_harvestFor 83 = .ok (.iaload, 1) := by decide +kernel
theorem dX4_harvestFor_84 : decode cX4_harvestFor 84 = .ok (.iadd, 1) := by decide +kernel
theorem dX4_harvestFor_85 : decode cX4_harvestFor 85 = .ok (.istore 7, 2) := by decide +kernel
theorem dX4_harvestFor_87 : decode cX4_harvestFor 87 = .ok (.aload_n 1, 1) := by decide +kernel
theorem dX4_harvestFor_88 : decode cX4_harvestFor 88 = .ok (.iload_n 2, 1) := by decide +kernel
theorem dX4_harvestFor_89 : decode cX4_harvestFor 89 = .ok (.iload 6, 2) := by decide +kernel
theorem dX4_harvestFor_91 : decode cX4_harvestFor 91 = .ok (.iload 4, 2) := by decide +kernel
theorem dX4_harvestFor_93 : decode cX4_harvestFor 93 = .ok (.invokevirtual 38, 3) := by decide +kernel
theorem dX4_harvestFor_96 : decode cX4_harvestFor 96 = .ok (.aload_n 0, 1) := by decide +kernel
theorem dX4_harvestFor_97 : decode cX4_harvestFor 97 = .ok (.getfield 9, 3) := by decide +kernel
theorem dX4_harvestFor_100 : decode cX4_harvestFor 100 = .ok (.iload 5, 2) := by decide +kernel
theorem dX4_harvestFor_102 : decode cX4_harvestFor 102 = .ok (.iaload, 1) := by decide +kernel
theorem dX4_harvestFor_103 : decode cX4_harvestFor 103 = .ok (.iadd, 1) := by decide +kernel
theorem dX4_harvestFor_104 : decode cX4_harvestFor 104 = .ok (.istore 8, 2) := by decide +kernel
theorem dX4_harvestFor_106 : decode cX4_harvestFor 106 = .ok (.aload_n 0, 1) := by decide +kernel
theorem dX4_harvestFor_107 : decode cX4_harvestFor 107 = .ok (.getfield 15, 3) := by decide +kernel
theorem dX4_harvestFor_110 : decode cX4_harvestFor 110 = .ok (.iload 5, 2) := by decide +kernel
theorem dX4_harvestFor_112 : decode cX4_harvestFor 112 = .ok (.iload 8, 2) := by decide +kernel
theorem dX4_harvestFor_114 : decode cX4_harvestFor 114 = .ok (.iload 7, 2) := by decide +kernel
theorem dX4_harvestFor_116 : decode cX4_harvestFor 116 = .ok (.if_icmp .le 17, 3) := by decide +kernel
theorem dX4_harvestFor_119 : decode cX4_harvestFor 119 = .ok (.aload_n 0, 1) := by decide +kernel
theorem dX4_harvestFor_120 : decode cX4_harvestFor 120 = .ok (.getfield 15, 3) := by decide +kernel
theorem dX4_harvestFor_123 : decode cX4_harvestFor 123 = .ok (.iload 5, 2) := by decide +kernel
theorem dX4_harvestFor_125 : decode cX4_harvestFor 125 = .ok (.iaload, 1) := by decide +kernel
