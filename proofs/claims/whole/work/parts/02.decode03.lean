theorem dX6_passBy_17 : decode cX6_passBy 17 = .ok (.getfield 25, 3) := by decide +kernel
theorem dX6_passBy_20 : decode cX6_passBy 20 = .ok (.iload_n 1, 1) := by decide +kernel
theorem dX6_passBy_21 : decode cX6_passBy 21 = .ok (.iload_n 2, 1) := by decide +kernel
theorem dX6_passBy_22 : decode cX6_passBy 22 = .ok (.invokevirtual 236, 3) := by decide +kernel
theorem dX6_passBy_25 : decode cX6_passBy 25 = .ok (.aload_n 0, 1) := by decide +kernel
theorem dX6_passBy_26 : decode cX6_passBy 26 = .ok (.getfield 46, 3) := by decide +kernel
theorem dX6_passBy_29 : decode cX6_passBy 29 = .ok (.iconst 0, 1) := by decide +kernel
theorem dX6_passBy_30 : decode cX6_passBy 30 = .ok (.invokevirtual 240, 3) := by decide +kernel
theorem dX6_passBy_33 : decode cX6_passBy 33 = .ok (.aload_n 0, 1) := by decide +kernel
theorem dX6_passBy_34 : decode cX6_passBy 34 = .ok (.getfield 46, 3) := by decide +kernel
theorem dX6_passBy_37 : decode cX6_passBy 37 = .ok (.invokevirtual 243, 3) := by decide +kernel
theorem dX6_passBy_40 : decode cX6_passBy 40 = .ok (.aload_n 0, 1) := by decide +kernel
theorem dX6_passBy_41 : decode cX6_passBy 41 = .ok (.getfield 46, 3) := by decide +kernel
theorem dX6_passBy_44 : decode cX6_passBy 44 = .ok (.invokevirtual 246, 3) := by decide +kernel
theorem dX6_passBy_47 : decode cX6_passBy 47 = .ok (.istore_n 3, 1) := by decide +kernel
theorem dX6_passBy_48 : decode cX6_passBy 48 = .ok (.aload_n 0, 1) := by decide +kernel
theorem dX6_passBy_49 : decode cX6_passBy 49 = .ok (.getfield 46, 3) := by decide +kernel
theorem dX6_passBy_52 : decode cX6_passBy 52 = .ok (.invokevirtual 255, 3) := by decide +kernel
theorem dX6_passBy_55 : decode cX6_passBy 55 = .ok (.iconst 0, 1) := by decide +kernel
theorem dX6_passBy_56 : decode cX6_passBy 56 = .ok (.aload_n 0, 1) := by decide +kernel
theorem dX6_passBy_57 : decode cX6_passBy 57 = .ok (.getfield 46, 3) := by decide +kernel
theorem dX6_passBy_60 : decode cX6_passBy 60 = .ok (.invokevirtual 246, 3) := by decide +kernel
theorem dX6_passBy_63 : decode cX6_passBy 63 = .ok (.iload_n 3, 1) := by decide +kernel
theorem dX6_passBy_64 : decode cX6_passBy 64 = .ok (.isub, 1) := by decide +kernel
theorem dX6_passBy_65 : decode cX6_passBy 65 = .ok (.invokestatic 258, 3) := by decide +kernel
theorem dX6_passBy_68 : decode cX6_passBy 68 = .ok (.ireturn, 1) := by decide +kernel
theorem dX6_laid_0 : decode cX6_laid 0 = .ok (.aload_n 0, 1) := by decide +kernel
theorem dX6_laid_1 : decode cX6_laid 1 = .ok (.iload_n 1, 1) := by decide +kernel
theorem dX6_laid_2 : decode cX6_laid 2 = .ok (.iload_n 2, 1) := by decide +kernel
theorem dX6_laid_3 : decode cX6_laid 3 = .ok (.invokevirtual 233, 3) := by decide +kernel
theorem dX6_laid_6 : decode cX6_laid 6 = .ok (.ifCond .ne 8, 3) := by decide +kernel
theorem dX6_laid_9 : decode cX6_laid 9 = .ok (.iload_n 3, 1) := by decide +kernel
theorem dX6_laid_10 : decode cX6_laid 10 = .ok (.iconst (-1), 1) := by decide +kernel
theorem dX6_laid_11 : decode cX6_laid 11 = .ok (.if_icmp .ge 6, 3) := by decide +kernel
theorem dX6_laid_14 : decode cX6_laid 14 = .ok (.ldc 66, 2) := by decide +kernel
theorem dX6_laid_16 : decode cX6_laid 16 = .ok (.ireturn, 1) := by decide +kernel
theorem dX6_laid_17 : decode cX6_laid 17 = .ok (.aload_n 0, 1) := by decide +kernel
theorem dX6_laid_18 : decode cX6_laid 18 = .ok (.getfield 25, 3) := by decide +kernel
theorem dX6_laid_21 : decode cX6_laid 21 = .ok (.getfield 148, 3) := by decide +kernel
theorem dX6_laid_24 : decode cX6_laid 24 = .ok (.bipush 6, 2) := by decide +kernel
theorem dX6_laid_26 : decode cX6_laid 26 = .ok (.if_icmp .le 6, 3) := by decide +kernel
theorem dX6_laid_29 : decode cX6_laid 29 = .ok (.ldc 113, 2) := by decide +kernel
theorem dX6_laid_31 : decode cX6_laid 31 = .ok (.ireturn, 1) := by decide +kernel
theorem dX6_laid_32 : decode cX6_laid 32 = .ok (.iload_n 3, 1) := by decide +kernel
theorem dX6_laid_33 : decode cX6_laid 33 = .ok (.aload_n 0, 1) := by decide +kernel
theorem dX6_laid_34 : decode cX6_laid 34 = .ok (.getfield 25, 3) := by decide +kernel
theorem dX6_laid_37 : decode cX6_laid 37 = .ok (.getfield 148, 3) := by decide +kernel
theorem dX6_laid_40 : decode cX6_laid 40 = .ok (.if_icmp .lt 6, 3) := by decide +kernel
theorem dX6_laid_43 : decode cX6_laid 43 = .ok (.ldc 181, 2) := by decide +kernel
theorem dX6_laid_45 : decode cX6_laid 45 = .ok (.ireturn, 1) := by decide +kernel
theorem dX6_laid_46 : decode cX6_laid 46 = .ok (.aload_n 0, 1) := by decide +kernel
theorem dX6_laid_47 : decode cX6_laid 47 = .ok (.getfield 46, 3) := by decide +kernel
theorem dX6_laid_50 : decode cX6_laid 50 = .ok (.aload_n 0, 1) := by decide +kernel
theorem dX6_laid_51 : decode cX6_laid 51 = .ok (.getfield 25, 3) := by decide +kernel
theorem dX6_laid_54 : decode cX6_laid 54 = .ok (.iload_n 1, 1) := by decide +kernel
theorem dX6_laid_55 : decode cX6_laid 55 = .ok (.iload_n 2, 1) := by decide +kernel
theorem dX6_laid_56 : decode cX6_laid 56 = .ok (.invokevirtual 236, 3) := by decide +kernel
theorem dX6_laid_59 : decode cX6_laid 59 = .ok (.aload_n 0, 1) := by decide +kernel
theorem dX6_laid_60 : decode cX6_laid 60 = .ok (.getfield 46, 3) := by decide +kernel
theorem dX6_laid_63 : decode cX6_laid 63 = .ok (.invokevirtual 263, 3) := by decide +kernel
theorem dX6_laid_66 : decode cX6_laid 66 = .ok (.istore 4, 2) := by decide +kernel
theorem dX6_laid_68 : decode cX6_laid 68 = .ok (.iload_n 3, 1) := by decide +kernel
theorem dX6_laid_69 : decode cX6_laid 69 = .ok (.ifCond .ge 8, 3) := by decide +kernel
theorem dX6_laid_72 : decode cX6_laid 72 = .ok (.iload 4, 2) := by decide +kernel
theorem dX6_laid_74 : decode cX6_laid 74 = .ok (.goto 12, 3) := by decide +kernel
theorem dX6_laid_77 : decode cX6_laid 77 = .ok (.aload_n 0, 1) := by decide +kernel
theorem dX6_laid_78 : decode cX6_laid 78 = .ok (.getfield 46, 3) := by decide +kernel
theorem dX6_laid_81 : decode cX6_laid 81 = .ok (.getfield 266, 3) := by decide +kernel
theorem dX6_laid_84 : decode cX6_laid 84 = .ok (.iload_n 3, 1) := by decide +kernel
theorem dX6_laid_85 : decode cX6_laid 85 = .ok (.iaload, 1) := by decide +kernel
theorem dX6_laid_86 : decode cX6_laid 86 = .ok (.ireturn, 1) := by decide +kernel
theorem dX6_ring_0 : decode cX6_ring 0 = .ok (.aload_n 0, 1) := by decide +kernel
theorem dX6_ring_1 : decode cX6_ring 1 = .ok (.iload_n 1, 1) := by decide +kernel
theorem dX6_ring_2 : decode cX6_ring 2 = .ok (.iload_n 2, 1) := by decide +kernel
theorem dX6_ring_3 : decode cX6_ring 3 = .ok (.invokevirtual 233, 3) := by decide +kernel
theorem dX6_ring_6 : decode cX6_ring 6 = .ok (.ifCond .ne 12, 3) := by decide +kernel
theorem dX6_ring_9 : decode cX6_ring 9 = .ok (.iload_n 3, 1) := by decide +kernel
theorem dX6_ring_10 : decode cX6_ring 10 = .ok (.ifCond .lt 8, 3) := by decide +kernel
theorem dX6_ring_13 : decode cX6_ring 13 = .ok (.iload_n 3, 1) := by decide +kernel
theorem dX6_ring_14 : decode cX6_ring 14 = .ok (.iconst 1, 1) := by decide +kernel
theorem dX6_ring_15 : decode cX6_ring 15 = .ok (.if_icmp .le 6, 3) := by decide +kernel
theorem dX6_ring_18 : decode cX6_ring 18 = .ok (.ldc 66, 2) := by decide +kernel
theorem dX6_ring_20 : decode cX6_ring 20 = .ok (.ireturn, 1) := by decide +kernel
theorem dX6_ring_21 : decode cX6_ring 21 = .ok (.aload_n 0, 1) := by decide +kernel
theorem dX6_ring_22 : decode cX6_ring 22 = .ok (.getfield 25, 3) := by decide +kernel
theorem dX6_ring_25 : decode cX6_ring 25 = .ok (.getfield 148, 3) := by decide +kernel
theorem dX6_ring_28 : decode cX6_ring 28 = .ok (.ifCond .ne 6, 3) := by decide +kernel
theorem dX6_ring_31 : decode cX6_ring 31 = .ok (.ldc 181, 2) := by decide +kernel
theorem dX6_ring_33 : decode cX6_ring 33 = .ok (.ireturn, 1) := by decide +kernel
theorem dX6_ring_34 : decode cX6_ring 34 = .ok (.aload_n 0, 1) := by decide +kernel
theorem dX6_ring_35 : decode cX6_ring 35 = .ok (.getfield 46, 3) := by decide +kernel
theorem dX6_ring_38 : decode cX6_ring 38 = .ok (.aload_n 0, 1) := by decide +kernel
theorem dX6_ring_39 : decode cX6_ring 39 = .ok (.getfield 25, 3) := by decide +kernel
theorem dX6_ring_42 : decode cX6_ring 42 = .ok (.iload_n 1, 1) := by decide +kernel
theorem dX6_ring_43 : decode cX6_ring 43 = .ok (.iload_n 2, 1) := by decide +kernel
theorem dX6_ring_44 : decode cX6_ring 44 = .ok (.invokevirtual 236, 3) := by decide +kernel
theorem dX6_ring_47 : decode cX6_ring 47 = .ok (.aload_n 0, 1) := by decide +kernel
theorem dX6_ring_48 : decode cX6_ring 48 = .ok (.getfield 46, 3) := by decide +kernel
theorem dX6_ring_51 : decode cX6_ring 51 = .ok (.invokevirtual 269, 3) := by decide +kernel
theorem dX6_ring_54 : decode cX6_ring 54 = .ok (.istore 4, 2) := by decide +kernel
theorem dX6_ring_56 : decode cX6_ring 56 = .ok (.iload_n 3, 1) := by decide +kernel
theorem dX6_ring_57 : decode cX6_ring 57 = .ok (.ifCond .ne 8, 3) := by decide +kernel
theorem dX6_ring_60 : decode cX6_ring 60 = .ok (.iload 4, 2) := by decide +kernel
theorem dX6_ring_62 : decode cX6_ring 62 = .ok (.goto 10, 3) := by decide +kernel
theorem dX6_ring_65 : decode cX6_ring 65 = .ok (.aload_n 0, 1) := by decide +kernel
theorem dX6_ring_66 : decode cX6_ring 66 = .ok (.getfield 46, 3) := by decide +kernel
theorem dX6_ring_69 : decode cX6_ring 69 = .ok (.getfield 272, 3) := by decide +kernel
theorem dX6_ring_72 : decode cX6_ring 72 = .ok (.ireturn, 1) := by decide +kernel
theorem dX6_line_0 : decode cX6_line 0 = .ok (.aload_n 0, 1) := by decide +kernel
theorem dX6_line_1 : decode cX6_line 1 = .ok (.getfield 25, 3) := by decide +kernel
theorem dX6_line_4 : decode cX6_line 4 = .ok (.getfield 168, 3) := by decide +kernel
theorem dX6_line_7 : decode cX6_line 7 = .ok (.ifCond .ne 6, 3) := by decide +kernel
theorem dX6_line_10 : decode cX6_line 10 = .ok (.ldc 151, 2) := by decide +kernel
theorem dX6_line_12 : decode cX6_line 12 = .ok (.ireturn, 1) := by decide +kernel
theorem dX6_line_13 : decode cX6_line 13 = .ok (.aload_n 0, 1) := by decide +kernel
theorem dX6_line_14 : decode cX6_line 14 = .ok (.iload_n 1, 1) := by decide +kernel
theorem dX6_line_15 : decode cX6_line 15 = .ok (.invokevirtual 62, 3) := by decide +kernel
theorem dX6_line_18 : decode cX6_line 18 = .ok (.ifCond .ne 32, 3) := by decide +kernel
theorem dX6_line_21 : decode cX6_line 21 = .ok (.iload_n 3, 1) := by decide +kernel
theorem dX6_line_22 : decode cX6_line 22 = .ok (.iconst 1, 1) := by decide +kernel
theorem dX6_line_23 : decode cX6_line 23 = .ok (.if_icmp .lt 27, 3) := by decide +kernel
theorem dX6_line_26 : decode cX6_line 26 = .ok (.iload_n 3, 1) := by decide +kernel
theorem dX6_line_27 : decode cX6_line 27 = .ok (.bipush 40, 2) := by decide +kernel
theorem dX6_line_29 : decode cX6_line 29 = .ok (.if_icmp .gt 21, 3) := by decide +kernel
theorem dX6_line_32 : decode cX6_line 32 = .ok (.iload 4, 2) := by decide +kernel
theorem dX6_line_34 : decode cX6_line 34 = .ok (.iconst (-1), 1) := by decide +kernel
theorem dX6_line_35 : decode cX6_line 35 = .ok (.if_icmp .lt 15, 3) := by decide +kernel
theorem dX6_line_38 : decode cX6_line 38 = .ok (.iload 4, 2) := by decide +kernel
theorem dX6_line_40 : decode cX6_line 40 = .ok (.aload_n 0, 1) := by decide +kernel
theorem dX6_line_41 : decode cX6_line 41 = .ok (.getfield 25, 3) := by decide +kernel
theorem dX6_line_44 : decode cX6_line 44 = .ok (.getfield 275, 3) := by decide +kernel
theorem dX6_line_47 : decode cX6_line 47 = .ok (.if_icmp .lt 6, 3) := by decide +kernel
theorem dX6_line_50 : decode cX6_line 50 = .ok (.ldc 66, 2) := by decide +kernel
theorem dX6_line_52 : decode cX6_line 52 = .ok (.ireturn, 1) := by decide +kernel
theorem dX6_line_53 : decode cX6_line 53 = .ok (.aload_n 0, 1) := by decide +kernel
theorem dX6_line_54 : decode cX6_line 54 = .ok (.iload_n 1, 1) := by decide +kernel
theorem dX6_line_55 : decode cX6_line 55 = .ok (.iload_n 2, 1) := by decide +kernel
theorem dX6_line_56 : decode cX6_line 56 = .ok (.iload_n 3, 1) := by decide +kernel
theorem dX6_line_57 : decode cX6_line 57 = .ok (.invokevirtual 78, 3) := by decide +kernel
theorem dX6_line_60 : decode cX6_line 60 = .ok (.istore 5, 2) := by decide +kernel
theorem dX6_line_62 : decode cX6_line 62 = .ok (.iload 5, 2) := by decide +kernel
theorem dX6_line_64 : decode cX6_line 64 = .ok (.ifCond .eq 10, 3) := by decide +kernel
theorem dX6_line_67 : decode cX6_line 67 = .ok (.aload_n 0, 1) := by decide +kernel
theorem dX6_line_68 : decode cX6_line 68 = .ok (.iload 5, 2) := by decide +kernel
theorem dX6_line_70 : decode cX6_line 70 = .ok (.invokevirtual 67, 3) := by decide +kernel
theorem dX6_line_73 : decode cX6_line 73 = .ok (.ireturn, 1) := by decide +kernel
theorem dX6_line_74 : decode cX6_line 74 = .ok (.aload_n 0, 1) := by decide +kernel
theorem dX6_line_75 : decode cX6_line 75 = .ok (.getfield 11, 3) := by decide +kernel
theorem dX6_line_78 : decode cX6_line 78 = .ok (.iload_n 1, 1) := by decide +kernel
theorem dX6_line_79 : decode cX6_line 79 = .ok (.aaload, 1) := by decide +kernel
theorem dX6_line_80 : decode cX6_line 80 = .ok (.aload_n 0, 1) := by decide +kernel
theorem dX6_line_81 : decode cX6_line 81 = .ok (.getfield 25, 3) := by decide +kernel
theorem dX6_line_84 : decode cX6_line 84 = .ok (.getfield 275, 3) := by decide +kernel
theorem dX6_line_87 : decode cX6_line 87 = .ok (.iload_n 2, 1) := by decide +kernel
theorem dX6_line_88 : decode cX6_line 88 = .ok (.iload_n 3, 1) := by decide +kernel
theorem dX6_line_89 : decode cX6_line 89 = .ok (.invokevirtual 278, 3) := by decide +kernel
theorem dX6_line_92 : decode cX6_line 92 = .ok (.ifCond .ne 6, 3) := by decide +kernel
theorem dX6_line_95 : decode cX6_line 95 = .ok (.ldc 66, 2) := by decide +kernel
theorem dX6_line_97 : decode cX6_line 97 = .ok (.ireturn, 1) := by decide +kernel
theorem dX6_line_98 : decode cX6_line 98 = .ok (.aload_n 0, 1) := by decide +kernel
theorem dX6_line_99 : decode cX6_line 99 = .ok (.aload_n 0, 1) := by decide +kernel
theorem dX6_line_100 : decode cX6_line 100 = .ok (.getfield 53, 3) := by decide +kernel
theorem dX6_line_103 : decode cX6_line 103 = .ok (.aload_n 0, 1) := by decide +kernel
theorem dX6_line_104 : decode cX6_line 104 = .ok (.getfield 25, 3) := by decide +kernel
theorem dX6_line_107 : decode cX6_line 107 = .ok (.aload_n 0, 1) := by decide +kernel
theorem dX6_line_108 : decode cX6_line 108 = .ok (.getfield 11, 3) := by decide +kernel
theorem dX6_line_111 : decode cX6_line 111 = .ok (.iload_n 1, 1) := by decide +kernel
theorem dX6_line_112 : decode cX6_line 112 = .ok (.aaload, 1) := by decide +kernel
theorem dX6_line_113 : decode cX6_line 113 = .ok (.iload_n 2, 1) := by decide +kernel
theorem dX6_line_114 : decode cX6_line 114 = .ok (.iload_n 3, 1) := by decide +kernel
theorem dX6_line_115 : decode cX6_line 115 = .ok (.iload 4, 2) := by decide +kernel
theorem dX6_line_117 : decode cX6_line 117 = .ok (.invokevirtual 282, 3) := by decide +kernel
theorem dX6_line_120 : decode cX6_line 120 = .ok (.invokevirtual 75, 3) := by decide +kernel
theorem dX6_line_123 : decode cX6_line 123 = .ok (.ireturn, 1) := by decide +kernel
theorem dX6_rots_0 : decode cX6_rots 0 = .ok (.aload_n 0, 1) := by decide +kernel
theorem dX6_rots_1 : decode cX6_rots 1 = .ok (.getfield 25, 3) := by decide +kernel
theorem dX6_rots_4 : decode cX6_rots 4 = .ok (.getfield 168, 3) := by decide +kernel
theorem dX6_rots_7 : decode cX6_rots 7 = .ok (.ifCond .ne 6, 3) := by decide +kernel
theorem dX6_rots_10 : decode cX6_rots 10 = .ok (.ldc 151, 2) := by decide +kernel
theorem dX6_rots_12 : decode cX6_rots 12 = .ok (.ireturn, 1) := by decide +kernel
theorem dX6_rots_13 : decode cX6_rots 13 = .ok (.iload_n 1, 1) := by decide +kernel
theorem dX6_rots_14 : decode cX6_rots 14 = .ok (.ifCond .lt 18, 3) := by decide +kernel
theorem dX6_rots_17 : decode cX6_rots 17 = .ok (.iload_n 1, 1) := by decide +kernel
theorem dX6_rots_18 : decode cX6_rots 18 = .ok (.bipush 99, 2) := by decide +kernel
theorem dX6_rots_20 : decode cX6_rots 20 = .ok (.if_icmp .gt 12, 3) := by decide +kernel
theorem dX6_rots_23 : decode cX6_rots 23 = .ok (.iload_n 2, 1) := by decide +kernel
theorem dX6_rots_24 : decode cX6_rots 24 = .ok (.ifCond .lt 8, 3) := by decide +kernel
theorem dX6_rots_27 : decode cX6_rots 27 = .ok (.iload_n 2, 1) := by decide +kernel
theorem dX6_rots_28 : decode cX6_rots 28 = .ok (.iconst 2, 1) := by decide +kernel
theorem dX6_rots_29 : decode cX6_rots 29 = .ok (.if_icmp .le 6, 3) := by decide +kernel
theorem dX6_rots_32 : decode cX6_rots 32 = .ok (.ldc 66, 2) := by decide +kernel
theorem dX6_rots_34 : decode cX6_rots 34 = .ok (.ireturn, 1) := by decide +kernel
theorem dX6_rots_35 : decode cX6_rots 35 = .ok (.aload_n 0, 1) := by decide +kernel
theorem dX6_rots_36 : decode cX6_rots 36 = .ok (.getfield 25, 3) := by decide +kernel
theorem dX6_rots_39 : decode cX6_rots 39 = .ok (.iload_n 1, 1) := by decide +kernel
theorem dX6_rots_40 : decode cX6_rots 40 = .ok (.invokevirtual 178, 3) := by decide +kernel
theorem dX6_rots_43 : decode cX6_rots 43 = .ok (.istore_n 3, 1) := by decide +kernel
theorem dX6_rots_44 : decode cX6_rots 44 = .ok (.iload_n 2, 1) := by decide +kernel
theorem dX6_rots_45 : decode cX6_rots 45 = .ok (.lookupswitch 34 #[(0, 27), (1, 32)], 27) := by decide +kernel
theorem dX6_rots_72 : decode cX6_rots 72 = .ok (.iload_n 3, 1) := by decide +kernel
theorem dX6_rots_73 : decode cX6_rots 73 = .ok (.invokestatic 286, 3) := by decide +kernel
theorem dX6_rots_76 : decode cX6_rots 76 = .ok (.ireturn, 1) := by decide +kernel
theorem dX6_rots_77 : decode cX6_rots 77 = .ok (.iload_n 3, 1) := by decide +kernel
theorem dX6_rots_78 : decode cX6_rots 78 = .ok (.ireturn, 1) := by decide +kernel
theorem dX6_rots_79 : decode cX6_rots 79 = .ok (.iload_n 3, 1) := by decide +kernel
theorem dX6_rots_80 : decode cX6_rots 80 = .ok (.aload_n 0, 1) := by decide +kernel
theorem dX6_rots_81 : decode cX6_rots 81 = .ok (.getfield 25, 3) := by decide +kernel
theorem dX6_rots_84 : decode cX6_rots 84 = .ok (.invokevirtual 291, 3) := by decide +kernel
theorem dX6_rots_87 : decode cX6_rots 87 = .ok (.iconst (-1), 1) := by decide +kernel
theorem dX6_rots_88 : decode cX6_rots 88 = .ok (.ixor, 1) := by decide +kernel
theorem dX6_rots_89 : decode cX6_rots 89 = .ok (.iand, 1) := by decide +kernel
theorem dX6_rots_90 : decode cX6_rots 90 = .ok (.ireturn, 1) := by decide +kernel
theorem dX6_reach_0 : decode cX6_reach 0 = .ok (.aload_n 0, 1) := by decide +kernel
theorem dX6_reach_1 : decode cX6_reach 1 = .ok (.iload_n 1, 1) := by decide +kernel
theorem dX6_reach_2 : decode cX6_reach 2 = .ok (.invokevirtual 206, 3) := by decide +kernel
theorem dX6_reach_5 : decode cX6_reach 5 = .ok (.ifCond .ne 12, 3) := by decide +kernel
theorem dX6_reach_8 : decode cX6_reach 8 = .ok (.iload_n 2, 1) := by decide +kernel
theorem dX6_reach_9 : decode cX6_reach 9 = .ok (.ifCond .lt 8, 3) := by decide +kernel
theorem dX6_reach_12 : decode cX6_reach 12 = .ok (.iload_n 2, 1) := by decide +kernel
theorem dX6_reach_13 : decode cX6_reach 13 = .ok (.iconst 1, 1) := by decide +kernel
theorem dX6_reach_14 : decode cX6_reach 14 = .ok (.if_icmp .le 6, 3) := by decide +kernel
theorem dX6_reach_17 : decode cX6_reach 17 = .ok (.ldc 66, 2) := by decide +kernel
theorem dX6_reach_19 : decode cX6_reach 19 = .ok (.ireturn, 1) := by decide +kernel
theorem dX6_reach_20 : decode cX6_reach 20 = .ok (.aload_n 0, 1) := by decide +kernel
theorem dX6_reach_21 : decode cX6_reach 21 = .ok (.getfield 25, 3) := by decide +kernel
theorem dX6_reach_24 : decode cX6_reach 24 = .ok (.iload_n 1, 1) := by decide +kernel
theorem dX6_reach_25 : decode cX6_reach 25 = .ok (.invokevirtual 215, 3) := by decide +kernel
theorem dX6_reach_28 : decode cX6_reach 28 = .ok (.istore_n 3, 1) := by decide +kernel
theorem dX6_reach_29 : decode cX6_reach 29 = .ok (.iload_n 3, 1) := by decide +kernel
theorem dX6_reach_30 : decode cX6_reach 30 = .ok (.ldc 181, 2) := by decide +kernel
theorem dX6_reach_32 : decode cX6_reach 32 = .ok (.if_icmp .ne 6, 3) := by decide +kernel
theorem dX6_reach_35 : decode cX6_reach 35 = .ok (.ldc 151, 2) := by decide +kernel
theorem dX6_reach_37 : decode cX6_reach 37 = .ok (.ireturn, 1) := by decide +kernel
theorem dX6_reach_38 : decode cX6_reach 38 = .ok (.iload_n 2, 1) := by decide +kernel
theorem dX6_reach_39 : decode cX6_reach 39 = .ok (.ifCond .ne 18, 3) := by decide +kernel
theorem dX6_reach_42 : decode cX6_reach 42 = .ok (.aload_n 0, 1) := by decide +kernel
theorem dX6_reach_43 : decode cX6_reach 43 = .ok (.getfield 53, 3) := by decide +kernel
theorem dX6_reach_46 : decode cX6_reach 46 = .ok (.aload_n 0, 1) := by decide +kernel
theorem dX6_reach_47 : decode cX6_reach 47 = .ok (.getfield 25, 3) := by decide +kernel
theorem dX6_reach_50 : decode cX6_reach 50 = .ok (.iload_n 3, 1) := by decide +kernel
theorem dX6_reach_51 : decode cX6_reach 51 = .ok (.invokevirtual 294, 3) := by decide +kernel
theorem dX6_reach_54 : decode cX6_reach 54 = .ok (.goto 15, 3) := by decide +kernel
theorem dX6_reach_57 : decode cX6_reach 57 = .ok (.aload_n 0, 1) := by decide +kernel
theorem dX6_reach_58 : decode cX6_reach 58 = .ok (.getfield 53, 3) := by decide +kernel
theorem dX6_reach_61 : decode cX6_reach 61 = .ok (.aload_n 0, 1) := by decide +kernel
theorem dX6_reach_62 : decode cX6_reach 62 = .ok (.getfield 25, 3) := by decide +kernel
theorem dX6_reach_65 : decode cX6_reach 65 = .ok (.iload_n 3, 1) := by decide +kernel
theorem dX6_reach_66 : decode cX6_reach 66 = .ok (.invokevirtual 298, 3) := by decide +kernel
theorem dX6_reach_69 : decode cX6_reach 69 = .ok (.ireturn, 1) := by decide +kernel
theorem dX6_harvest_0 : decode cX6_harvest 0 = .ok (.aload_n 0, 1) := by decide +kernel
theorem dX6_harvest_1 : decode cX6_harvest 1 = .ok (.iload_n 1, 1) := by decide +kernel
theorem dX6_harvest_2 : decode cX6_harvest 2 = .ok (.invokevirtual 142, 3) := by decide +kernel
theorem dX6_harvest_5 : decode cX6_harvest 5 = .ok (.ifCond .ne 8, 3) := by decide +kernel
theorem dX6_harvest_8 : decode cX6_harvest 8 = .ok (.iload_n 2, 1) := by decide +kernel
theorem dX6_harvest_9 : decode cX6_harvest 9 = .ok (.iconst (-1), 1) := by decide +kernel
theorem dX6_harvest_10 : decode cX6_harvest 10 = .ok (.if_icmp .ge 6, 3) := by decide +kernel
theorem dX6_harvest_13 : decode cX6_harvest 13 = .ok (.ldc 66, 2) := by decide +kernel
theorem dX6_harvest_15 : decode cX6_harvest 15 = .ok (.ireturn, 1) := by decide +kernel
theorem dX6_harvest_16 : decode cX6_harvest 16 = .ok (.iload_n 2, 1) := by decide +kernel
theorem dX6_harvest_17 : decode cX6_harvest 17 = .ok (.aload_n 0, 1) := by decide +kernel
theorem dX6_harvest_18 : decode cX6_harvest 18 = .ok (.getfield 25, 3) := by decide +kernel
theorem dX6_harvest_21 : decode cX6_harvest 21 = .ok (.getfield 148, 3) := by decide +kernel
theorem dX6_harvest_24 : decode cX6_harvest 24 = .ok (.if_icmp .lt 6, 3) := by decide +kernel
theorem dX6_harvest_27 : decode cX6_harvest 27 = .ok (.ldc 181, 2) := by decide +kernel
theorem dX6_harvest_29 : decode cX6_harvest 29 = .ok (.ireturn, 1) := by decide +kernel
theorem dX6_harvest_30 : decode cX6_harvest 30 = .ok (.aload_n 0, 1) := by decide +kernel
theorem dX6_harvest_31 : decode cX6_harvest 31 = .ok (.getfield 53, 3) := by decide +kernel
theorem dX6_harvest_34 : decode cX6_harvest 34 = .ok (.aload_n 0, 1) := by decide +kernel
theorem dX6_harvest_35 : decode cX6_harvest 35 = .ok (.getfield 25, 3) := by decide +kernel
theorem dX6_harvest_38 : decode cX6_harvest 38 = .ok (.iload_n 1, 1) := by decide +kernel
theorem dX6_harvest_39 : decode cX6_harvest 39 = .ok (.invokevirtual 301, 3) := by decide +kernel
theorem dX6_harvest_42 : decode cX6_harvest 42 = .ok (.iload_n 2, 1) := by decide +kernel
theorem dX6_harvest_43 : decode cX6_harvest 43 = .ok (.ifCond .ge 15, 3) := by decide +kernel
theorem dX6_harvest_46 : decode cX6_harvest 46 = .ok (.aload_n 0, 1) := by decide +kernel
theorem dX6_harvest_47 : decode cX6_harvest 47 = .ok (.getfield 53, 3) := by decide +kernel
theorem dX6_harvest_50 : decode cX6_harvest 50 = .ok (.getfield 305, 3) := by decide +kernel
theorem dX6_harvest_53 : decode cX6_harvest 53 = .ok (.iconst 0, 1) := by decide +kernel
theorem dX6_harvest_54 : decode cX6_harvest 54 = .ok (.iaload, 1) := by decide +kernel
theorem dX6_harvest_55 : decode cX6_harvest 55 = .ok (.goto 16, 3) := by decide +kernel
theorem dX6_harvest_58 : decode cX6_harvest 58 = .ok (.aload_n 0, 1) := by decide +kernel
theorem dX6_harvest_59 : decode cX6_harvest 59 = .ok (.getfield 53, 3) := by decide +kernel
theorem dX6_harvest_62 : decode cX6_harvest 62 = .ok (.getfield 308, 3) := by decide +kernel
theorem dX6_harvest_65 : decode cX6_harvest 65 = .ok (.iconst 0, 1) := by decide +kernel
theorem dX6_harvest_66 : decode cX6_harvest 66 = .ok (.iaload, 1) := by decide +kernel
theorem dX6_harvest_67 : decode cX6_harvest 67 = .ok (.iload_n 2, 1) := by decide +kernel
theorem dX6_harvest_68 : decode cX6_harvest 68 = .ok (.ishr, 1) := by decide +kernel
theorem dX6_harvest_69 : decode cX6_harvest 69 = .ok (.iconst 1, 1) := by decide +kernel
theorem dX6_harvest_70 : decode cX6_harvest 70 = .ok (.iand, 1) := by decide +kernel
theorem dX6_harvest_71 : decode cX6_harvest 71 = .ok (.ireturn, 1) := by decide +kernel
theorem dX6_judge_0 : decode cX6_judge 0 = .ok (.aload_n 0, 1) := by decide +kernel
theorem dX6_judge_1 : decode cX6_judge 1 = .ok (.getfield 25, 3) := by decide +kernel
theorem dX6_judge_4 : decode cX6_judge 4 = .ok (.getfield 168, 3) := by decide +kernel
theorem dX6_judge_7 : decode cX6_judge 7 = .ok (.ifCond .ne 6, 3) := by decide +kernel
theorem dX6_judge_10 : decode cX6_judge 10 = .ok (.ldc 151, 2) := by decide +kernel
theorem dX6_judge_12 : decode cX6_judge 12 = .ok (.ireturn, 1) := by decide +kernel
theorem dX6_judge_13 : decode cX6_judge 13 = .ok (.aload_n 0, 1) := by decide +kernel
theorem dX6_judge_14 : decode cX6_judge 14 = .ok (.iload_n 1, 1) := by decide +kernel
theorem dX6_judge_15 : decode cX6_judge 15 = .ok (.invokevirtual 62, 3) := by decide +kernel
theorem dX6_judge_18 : decode cX6_judge 18 = .ok (.ifCond .ne 14, 3) := by decide +kernel
theorem dX6_judge_21 : decode cX6_judge 21 = .ok (.iload_n 3, 1) := by decide +kernel
theorem dX6_judge_22 : decode cX6_judge 22 = .ok (.iconst 1, 1) := by decide +kernel
theorem dX6_judge_23 : decode cX6_judge 23 = .ok (.if_icmp .lt 9, 3) := by decide +kernel
theorem dX6_judge_26 : decode cX6_judge 26 = .ok (.iload_n 3, 1) := by decide +kernel
theorem dX6_judge_27 : decode cX6_judge 27 = .ok (.bipush 16, 2) := by decide +kernel
theorem dX6_judge_29 : decode cX6_judge 29 = .ok (.if_icmp .le 6, 3) := by decide +kernel
theorem dX6_judge_32 : decode cX6_judge 32 = .ok (.ldc 66, 2) := by decide +kernel
theorem dX6_judge_34 : decode cX6_judge 34 = .ok (.ireturn, 1) := by decide +kernel
theorem dX6_judge_35 : decode cX6_judge 35 = .ok (.aload_n 0, 1) := by decide +kernel
theorem dX6_judge_36 : decode cX6_judge 36 = .ok (.iload_n 1, 1) := by decide +kernel
theorem dX6_judge_37 : decode cX6_judge 37 = .ok (.iload_n 2, 1) := by decide +kernel
theorem dX6_judge_38 : decode cX6_judge 38 = .ok (.iload_n 3, 1) := by decide +kernel
theorem dX6_judge_39 : decode cX6_judge 39 = .ok (.invokevirtual 78, 3) := by decide +kernel
theorem dX6_judge_42 : decode cX6_judge 42 = .ok (.istore 4, 2) := by decide +kernel
theorem dX6_judge_44 : decode cX6_judge 44 = .ok (.iload 4, 2) := by decide +kernel
theorem dX6_judge_46 : decode cX6_judge 46 = .ok (.ifCond .eq 10, 3) := by decide +kernel
theorem dX6_judge_49 : decode cX6_judge 49 = .ok (.aload_n 0, 1) := by decide +kernel
theorem dX6_judge_50 : decode cX6_judge 50 = .ok (.iload 4, 2) := by decide +kernel
theorem dX6_judge_52 : decode cX6_judge 52 = .ok (.invokevirtual 67, 3) := by decide +kernel
theorem dX6_judge_55 : decode cX6_judge 55 = .ok (.ireturn, 1) := by decide +kernel
theorem dX6_judge_56 : decode cX6_judge 56 = .ok (.aload_n 0, 1) := by decide +kernel
theorem dX6_judge_57 : decode cX6_judge 57 = .ok (.getfield 11, 3) := by decide +kernel
theorem dX6_judge_60 : decode cX6_judge 60 = .ok (.iload_n 1, 1) := by decide +kernel
theorem dX6_judge_61 : decode cX6_judge 61 = .ok (.aaload, 1) := by decide +kernel
theorem dX6_judge_62 : decode cX6_judge 62 = .ok (.aload_n 0, 1) := by decide +kernel
theorem dX6_judge_63 : decode cX6_judge 63 = .ok (.getfield 25, 3) := by decide +kernel
theorem dX6_judge_66 : decode cX6_judge 66 = .ok (.getfield 139, 3) := by decide +kernel
theorem dX6_judge_69 : decode cX6_judge 69 = .ok (.iload_n 2, 1) := by decide +kernel
theorem dX6_judge_70 : decode cX6_judge 70 = .ok (.iload_n 3, 1) := by decide +kernel
theorem dX6_judge_71 : decode cX6_judge 71 = .ok (.invokevirtual 278, 3) := by decide +kernel
theorem dX6_judge_74 : decode cX6_judge 74 = .ok (.ifCond .ne 6, 3) := by decide +kernel
theorem dX6_judge_77 : decode cX6_judge 77 = .ok (.ldc 66, 2) := by decide +kernel
theorem dX6_judge_79 : decode cX6_judge 79 = .ok (.ireturn, 1) := by decide +kernel
theorem dX6_judge_80 : decode cX6_judge 80 = .ok (.aload_n 0, 1) := by decide +kernel
theorem dX6_judge_81 : decode cX6_judge 81 = .ok (.aload_n 0, 1) := by decide +kernel
theorem dX6_judge_82 : decode cX6_judge 82 = .ok (.getfield 53, 3) := by decide +kernel
theorem dX6_judge_85 : decode cX6_judge 85 = .ok (.aload_n 0, 1) := by decide +kernel
theorem dX6_judge_86 : decode cX6_judge 86 = .ok (.getfield 25, 3) := by decide +kernel
theorem dX6_judge_89 : decode cX6_judge 89 = .ok (.aload_n 0, 1) := by decide +kernel
theorem dX6_judge_90 : decode cX6_judge 90 = .ok (.getfield 11, 3) := by decide +kernel
theorem dX6_judge_93 : decode cX6_judge 93 = .ok (.iload_n 1, 1) := by decide +kernel
theorem dX6_judge_94 : decode cX6_judge 94 = .ok (.aaload, 1) := by decide +kernel
theorem dX6_judge_95 : decode cX6_judge 95 = .ok (.iload_n 2, 1) := by decide +kernel
theorem dX6_judge_96 : decode cX6_judge 96 = .ok (.iload_n 3, 1) := by decide +kernel
theorem dX6_judge_97 : decode cX6_judge 97 = .ok (.invokevirtual 309, 3) := by decide +kernel
theorem dX6_judge_100 : decode cX6_judge 100 = .ok (.invokevirtual 75, 3) := by decide +kernel
theorem dX6_judge_103 : decode cX6_judge 103 = .ok (.ireturn, 1) := by decide +kernel
theorem dX6_heard_0 : decode cX6_heard 0 = .ok (.aload_n 0, 1) := by decide +kernel
theorem dX6_heard_1 : decode cX6_heard 1 = .ok (.iload_n 1, 1) := by decide +kernel
theorem dX6_heard_2 : decode cX6_heard 2 = .ok (.invokevirtual 142, 3) := by decide +kernel
theorem dX6_heard_5 : decode cX6_heard 5 = .ok (.ifCond .ne 35, 3) := by decide +kernel
theorem dX6_heard_8 : decode cX6_heard 8 = .ok (.aload_n 0, 1) := by decide +kernel
theorem dX6_heard_9 : decode cX6_heard 9 = .ok (.iload_n 2, 1) := by decide +kernel
theorem dX6_heard_10 : decode cX6_heard 10 = .ok (.invokevirtual 62, 3) := by decide +kernel
theorem dX6_heard_13 : decode cX6_heard 13 = .ok (.ifCond .ne 27, 3) := by decide +kernel
theorem dX6_heard_16 : decode cX6_heard 16 = .ok (.iload 4, 2) := by decide +kernel
theorem dX6_heard_18 : decode cX6_heard 18 = .ok (.iconst 1, 1) := by decide +kernel
theorem dX6_heard_19 : decode cX6_heard 19 = .ok (.if_icmp .lt 21, 3) := by decide +kernel
theorem dX6_heard_22 : decode cX6_heard 22 = .ok (.iload 4, 2) := by decide +kernel
theorem dX6_heard_24 : decode cX6_heard 24 = .ok (.bipush 10, 2) := by decide +kernel
theorem dX6_heard_26 : decode cX6_heard 26 = .ok (.if_icmp .gt 14, 3) := by decide +kernel
theorem dX6_heard_29 : decode cX6_heard 29 = .ok (.iload 5, 2) := by decide +kernel
theorem dX6_heard_31 : decode cX6_heard 31 = .ok (.ifCond .lt 9, 3) := by decide +kernel
theorem dX6_heard_34 : decode cX6_heard 34 = .ok (.iload 5, 2) := by decide +kernel
theorem dX6_heard_36 : decode cX6_heard 36 = .ok (.iconst 1, 1) := by decide +kernel
theorem dX6_heard_37 : decode cX6_heard 37 = .ok (.if_icmp .le 6, 3) := by decide +kernel
theorem dX6_heard_40 : decode cX6_heard 40 = .ok (.ldc 66, 2) := by decide +kernel
theorem dX6_heard_42 : decode cX6_heard 42 = .ok (.ireturn, 1) := by decide +kernel
theorem dX6_heard_43 : decode cX6_heard 43 = .ok (.aload_n 0, 1) := by decide +kernel
theorem dX6_heard_44 : decode cX6_heard 44 = .ok (.iload_n 2, 1) := by decide +kernel
theorem dX6_heard_45 : decode cX6_heard 45 = .ok (.iload_n 3, 1) := by decide +kernel
theorem dX6_heard_46 : decode cX6_heard 46 = .ok (.iload 4, 2) := by decide +kernel
theorem dX6_heard_48 : decode cX6_heard 48 = .ok (.invokevirtual 78, 3) := by decide +kernel
theorem dX6_heard_51 : decode cX6_heard 51 = .ok (.istore 6, 2) := by decide +kernel
theorem dX6_heard_53 : decode cX6_heard 53 = .ok (.iload 6, 2) := by decide +kernel
theorem dX6_heard_55 : decode cX6_heard 55 = .ok (.ifCond .eq 10, 3) := by decide +kernel
theorem dX6_heard_58 : decode cX6_heard 58 = .ok (.aload_n 0, 1) := by decide +kernel
theorem dX6_heard_59 : decode cX6_heard 59 = .ok (.iload 6, 2) := by decide +kernel
theorem dX6_heard_61 : decode cX6_heard 61 = .ok (.invokevirtual 67, 3) := by decide +kernel
theorem dX6_heard_64 : decode cX6_heard 64 = .ok (.ireturn, 1) := by decide +kernel
theorem dX6_heard_65 : decode cX6_heard 65 = .ok (.aload_n 0, 1) := by decide +kernel
theorem dX6_heard_66 : decode cX6_heard 66 = .ok (.getfield 53, 3) := by decide +kernel
theorem dX6_heard_69 : decode cX6_heard 69 = .ok (.aload_n 0, 1) := by decide +kernel
theorem dX6_heard_70 : decode cX6_heard 70 = .ok (.getfield 25, 3) := by decide +kernel
theorem dX6_heard_73 : decode cX6_heard 73 = .ok (.iload_n 1, 1) := by decide +kernel
theorem dX6_heard_74 : decode cX6_heard 74 = .ok (.aload_n 0, 1) := by decide +kernel
theorem dX6_heard_75 : decode cX6_heard 75 = .ok (.getfield 11, 3) := by decide +kernel
theorem dX6_heard_78 : decode cX6_heard 78 = .ok (.iload_n 2, 1) := by decide +kernel
theorem dX6_heard_79 : decode cX6_heard 79 = .ok (.aaload, 1) := by decide +kernel
theorem dX6_heard_80 : decode cX6_heard 80 = .ok (.iload_n 3, 1) := by decide +kernel
theorem dX6_heard_81 : decode cX6_heard 81 = .ok (.iload 4, 2) := by decide +kernel
theorem dX6_heard_83 : decode cX6_heard 83 = .ok (.invokevirtual 313, 3) := by decide +kernel
theorem dX6_heard_86 : decode cX6_heard 86 = .ok (.aload_n 0, 1) := by decide +kernel
theorem dX6_heard_87 : decode cX6_heard 87 = .ok (.iload 5, 2) := by decide +kernel
theorem dX6_heard_89 : decode cX6_heard 89 = .ok (.ifCond .ne 15, 3) := by decide +kernel
theorem dX6_heard_92 : decode cX6_heard 92 = .ok (.aload_n 0, 1) := by decide +kernel
theorem dX6_heard_93 : decode cX6_heard 93 = .ok (.getfield 53, 3) := by decide +kernel
theorem dX6_heard_96 : decode cX6_heard 96 = .ok (.iload 4, 2) := by decide +kernel
theorem dX6_heard_98 : decode cX6_heard 98 = .ok (.invokevirtual 317, 3) := by decide +kernel
theorem dX6_heard_101 : decode cX6_heard 101 = .ok (.goto 16, 3) := by decide +kernel
theorem dX6_heard_104 : decode cX6_heard 104 = .ok (.aload_n 0, 1) := by decide +kernel
theorem dX6_heard_105 : decode cX6_heard 105 = .ok (.getfield 53, 3) := by decide +kernel
theorem dX6_heard_108 : decode cX6_heard 108 = .ok (.aload_n 0, 1) := by decide +kernel
theorem dX6_heard_109 : decode cX6_heard 109 = .ok (.getfield 25, 3) := by decide +kernel
theorem dX6_heard_112 : decode cX6_heard 112 = .ok (.iload 4, 2) := by decide +kernel
theorem dX6_heard_114 : decode cX6_heard 114 = .ok (.invokevirtual 320, 3) := by decide +kernel
theorem dX6_heard_117 : decode cX6_heard 117 = .ok (.invokevirtual 75, 3) := by decide +kernel
theorem dX6_heard_120 : decode cX6_heard 120 = .ok (.ireturn, 1) := by decide +kernel
theorem dX6_apart_0 : decode cX6_apart 0 = .ok (.aload_n 0, 1) := by decide +kernel
theorem dX6_apart_1 : decode cX6_apart 1 = .ok (.iload_n 1, 1) := by decide +kernel
theorem dX6_apart_2 : decode cX6_apart 2 = .ok (.invokevirtual 142, 3) := by decide +kernel
theorem dX6_apart_5 : decode cX6_apart 5 = .ok (.ifCond .ne 33, 3) := by decide +kernel
theorem dX6_apart_8 : decode cX6_apart 8 = .ok (.iload_n 2, 1) := by decide +kernel
theorem dX6_apart_9 : decode cX6_apart 9 = .ok (.ifCond .lt 29, 3) := by decide +kernel
theorem dX6_apart_12 : decode cX6_apart 12 = .ok (.iload_n 2, 1) := by decide +kernel
theorem dX6_apart_13 : decode cX6_apart 13 = .ok (.aload_n 0, 1) := by decide +kernel
theorem dX6_apart_14 : decode cX6_apart 14 = .ok (.getfield 25, 3) := by decide +kernel
theorem dX6_apart_17 : decode cX6_apart 17 = .ok (.getfield 148, 3) := by decide +kernel
theorem dX6_apart_20 : decode cX6_apart 20 = .ok (.if_icmp .gt 18, 3) := by decide +kernel
theorem dX6_apart_23 : decode cX6_apart 23 = .ok (.iload_n 3, 1) := by decide +kernel
theorem dX6_apart_24 : decode cX6_apart 24 = .ok (.ifCond .lt 14, 3) := by decide +kernel
theorem dX6_apart_27 : decode cX6_apart 27 = .ok (.iload_n 3, 1) := by decide +kernel
theorem dX6_apart_28 : decode cX6_apart 28 = .ok (.aload_n 0, 1) := by decide +kernel
theorem dX6_apart_29 : decode cX6_apart 29 = .ok (.getfield 25, 3) := by decide +kernel
theorem dX6_apart_32 : decode cX6_apart 32 = .ok (.getfield 148, 3) := by decide +kernel
theorem dX6_apart_35 : decode cX6_apart 35 = .ok (.if_icmp .le 6, 3) := by decide +kernel
theorem dX6_apart_38 : decode cX6_apart 38 = .ok (.ldc 66, 2) := by decide +kernel
theorem dX6_apart_40 : decode cX6_apart 40 = .ok (.ireturn, 1) := by decide +kernel
theorem dX6_apart_41 : decode cX6_apart 41 = .ok (.aload_n 0, 1) := by decide +kernel
theorem dX6_apart_42 : decode cX6_apart 42 = .ok (.getfield 53, 3) := by decide +kernel
theorem dX6_apart_45 : decode cX6_apart 45 = .ok (.aload_n 0, 1) := by decide +kernel
theorem dX6_apart_46 : decode cX6_apart 46 = .ok (.getfield 25, 3) := by decide +kernel
theorem dX6_apart_49 : decode cX6_apart 49 = .ok (.iload_n 1, 1) := by decide +kernel
theorem dX6_apart_50 : decode cX6_apart 50 = .ok (.iload_n 2, 1) := by decide +kernel
theorem dX6_apart_51 : decode cX6_apart 51 = .ok (.iload_n 3, 1) := by decide +kernel
theorem dX6_apart_52 : decode cX6_apart 52 = .ok (.invokevirtual 323, 3) := by decide +kernel
theorem dX6_apart_55 : decode cX6_apart 55 = .ok (.ireturn, 1) := by decide +kernel
theorem dX6_image_0 : decode cX6_image 0 = .ok (.iload_n 1, 1) := by decide +kernel
theorem dX6_image_1 : decode cX6_image 1 = .ok (.ifCond .lt 8, 3) := by decide +kernel
theorem dX6_image_4 : decode cX6_image 4 = .ok (.iload_n 1, 1) := by decide +kernel
theorem dX6_image_5 : decode cX6_image 5 = .ok (.iconst 2, 1) := by decide +kernel
theorem dX6_image_6 : decode cX6_image 6 = .ok (.if_icmp .lt 6, 3) := by decide +kernel
theorem dX6_image_9 : decode cX6_image 9 = .ok (.ldc 66, 2) := by decide +kernel
theorem dX6_image_11 : decode cX6_image 11 = .ok (.ireturn, 1) := by decide +kernel
theorem dX6_image_12 : decode cX6_image 12 = .ok (.aload_n 0, 1) := by decide +kernel
theorem dX6_image_13 : decode cX6_image 13 = .ok (.getfield 25, 3) := by decide +kernel
theorem dX6_image_16 : decode cX6_image 16 = .ok (.getfield 168, 3) := by decide +kernel
theorem dX6_image_19 : decode cX6_image 19 = .ok (.ifCond .ne 6, 3) := by decide +kernel
theorem dX6_image_22 : decode cX6_image 22 = .ok (.ldc 151, 2) := by decide +kernel
theorem dX6_image_24 : decode cX6_image 24 = .ok (.ireturn, 1) := by decide +kernel
theorem dX6_image_25 : decode cX6_image 25 = .ok (.aload_n 0, 1) := by decide +kernel
theorem dX6_image_26 : decode cX6_image 26 = .ok (.getfield 32, 3) := by decide +kernel
theorem dX6_image_29 : decode cX6_image 29 = .ok (.iload_n 1, 1) := by decide +kernel
theorem dX6_image_30 : decode cX6_image 30 = .ok (.aaload, 1) := by decide +kernel
theorem dX6_image_31 : decode cX6_image 31 = .ok (.aload_n 0, 1) := by decide +kernel
theorem dX6_image_32 : decode cX6_image 32 = .ok (.getfield 25, 3) := by decide +kernel
theorem dX6_image_35 : decode cX6_image 35 = .ok (.invokevirtual 132, 3) := by decide +kernel
theorem dX6_image_38 : decode cX6_image 38 = .ok (.iconst 1, 1) := by decide +kernel
theorem dX6_image_39 : decode cX6_image 39 = .ok (.ireturn, 1) := by decide +kernel
theorem dX6_restore_0 : decode cX6_restore 0 = .ok (.iload_n 1, 1) := by decide +kernel
theorem dX6_restore_1 : decode cX6_restore 1 = .ok (.ifCond .lt 8, 3) := by decide +kernel
theorem dX6_restore_4 : decode cX6_restore 4 = .ok (.iload_n 1, 1) := by decide +kernel
theorem dX6_restore_5 : decode cX6_restore 5 = .ok (.iconst 2, 1) := by decide +kernel
theorem dX6_restore_6 : decode cX6_restore 6 = .ok (.if_icmp .lt 6, 3) := by decide +kernel
theorem dX6_restore_9 : decode cX6_restore 9 = .ok (.ldc 66, 2) := by decide +kernel
theorem dX6_restore_11 : decode cX6_restore 11 = .ok (.ireturn, 1) := by decide +kernel
theorem dX6_restore_12 : decode cX6_restore 12 = .ok (.aload_n 0, 1) := by decide +kernel
theorem dX6_restore_13 : decode cX6_restore 13 = .ok (.getfield 32, 3) := by decide +kernel
theorem dX6_restore_16 : decode cX6_restore 16 = .ok (.iload_n 1, 1) := by decide +kernel
theorem dX6_restore_17 : decode cX6_restore 17 = .ok (.aaload, 1) := by decide +kernel
theorem dX6_restore_18 : decode cX6_restore 18 = .ok (.getfield 168, 3) := by decide +kernel
theorem dX6_restore_21 : decode cX6_restore 21 = .ok (.ifCond .ne 6, 3) := by decide +kernel
theorem dX6_restore_24 : decode cX6_restore 24 = .ok (.ldc 151, 2) := by decide +kernel
theorem dX6_restore_26 : decode cX6_restore 26 = .ok (.ireturn, 1) := by decide +kernel
theorem dX6_restore_27 : decode cX6_restore 27 = .ok (.aload_n 0, 1) := by decide +kernel
theorem dX6_restore_28 : decode cX6_restore 28 = .ok (.getfield 25, 3) := by decide +kernel
theorem dX6_restore_31 : decode cX6_restore 31 = .ok (.aload_n 0, 1) := by decide +kernel
theorem dX6_restore_32 : decode cX6_restore 32 = .ok (.getfield 32, 3) := by decide +kernel
theorem dX6_restore_35 : decode cX6_restore 35 = .ok (.iload_n 1, 1) := by decide +kernel
theorem dX6_restore_36 : decode cX6_restore 36 = .ok (.aaload, 1) := by decide +kernel
theorem dX6_restore_37 : decode cX6_restore 37 = .ok (.invokevirtual 132, 3) := by decide +kernel
theorem dX6_restore_40 : decode cX6_restore 40 = .ok (.aload_n 0, 1) := by decide +kernel
theorem dX6_restore_41 : decode cX6_restore 41 = .ok (.getfield 39, 3) := by decide +kernel
theorem dX6_restore_44 : decode cX6_restore 44 = .ok (.invokevirtual 136, 3) := by decide +kernel
theorem dX6_restore_47 : decode cX6_restore 47 = .ok (.iconst 1, 1) := by decide +kernel
theorem dX6_restore_48 : decode cX6_restore 48 = .ok (.ireturn, 1) := by decide +kernel
theorem dX6_kind_0 : decode cX6_kind 0 = .ok (.aload_n 0, 1) := by decide +kernel
theorem dX6_kind_1 : decode cX6_kind 1 = .ok (.iload_n 1, 1) := by decide +kernel
theorem dX6_kind_2 : decode cX6_kind 2 = .ok (.invokevirtual 206, 3) := by decide +kernel
theorem dX6_kind_5 : decode cX6_kind 5 = .ok (.ifCond .eq 8, 3) := by decide +kernel
theorem dX6_kind_8 : decode cX6_kind 8 = .ok (.ldc 66, 2) := by decide +kernel
theorem dX6_kind_10 : decode cX6_kind 10 = .ok (.goto 12, 3) := by decide +kernel
theorem dX6_kind_13 : decode cX6_kind 13 = .ok (.aload_n 0, 1) := by decide +kernel
theorem dX6_kind_14 : decode cX6_kind 14 = .ok (.getfield 25, 3) := by decide +kernel
theorem dX6_kind_17 : decode cX6_kind 17 = .ok (.getfield 327, 3) := by decide +kernel
theorem dX6_kind_20 : decode cX6_kind 20 = .ok (.iload_n 1, 1) := by decide +kernel
theorem dX6_kind_21 : decode cX6_kind 21 = .ok (.iaload, 1) := by decide +kernel
theorem dX6_kind_22 : decode cX6_kind 22 = .ok (.ireturn, 1) := by decide +kernel
theorem dX6_as_0 : decode cX6_as 0 = .ok (.aload_n 0, 1) := by decide +kernel
theorem dX6_as_1 : decode cX6_as 1 = .ok (.iload_n 1, 1) := by decide +kernel
theorem dX6_as_2 : decode cX6_as 2 = .ok (.invokevirtual 206, 3) := by decide +kernel
theorem dX6_as_5 : decode cX6_as 5 = .ok (.ifCond .ne 12, 3) := by decide +kernel
theorem dX6_as_8 : decode cX6_as 8 = .ok (.iload_n 2, 1) := by decide +kernel
theorem dX6_as_9 : decode cX6_as 9 = .ok (.ifCond .lt 8, 3) := by decide +kernel
theorem dX6_as_12 : decode cX6_as 12 = .ok (.iload_n 2, 1) := by decide +kernel
theorem dX6_as_13 : decode cX6_as 13 = .ok (.iconst 5, 1) := by decide +kernel
theorem dX6_as_14 : decode cX6_as 14 = .ok (.if_icmp .le 6, 3) := by decide +kernel
theorem dX6_as_17 : decode cX6_as 17 = .ok (.ldc 66, 2) := by decide +kernel
theorem dX6_as_19 : decode cX6_as 19 = .ok (.ireturn, 1) := by decide +kernel
theorem dX6_as_20 : decode cX6_as 20 = .ok (.aload_n 0, 1) := by decide +kernel
theorem dX6_as_21 : decode cX6_as 21 = .ok (.getfield 25, 3) := by decide +kernel
theorem dX6_as_24 : decode cX6_as 24 = .ok (.getfield 327, 3) := by decide +kernel
theorem dX6_as_27 : decode cX6_as 27 = .ok (.iload_n 1, 1) := by decide +kernel
theorem dX6_as_28 : decode cX6_as 28 = .ok (.iaload, 1) := by decide +kernel
theorem dX6_as_29 : decode cX6_as 29 = .ok (.iload_n 2, 1) := by decide +kernel
theorem dX6_as_30 : decode cX6_as 30 = .ok (.invokestatic 330, 3) := by decide +kernel
theorem dX6_as_33 : decode cX6_as 33 = .ok (.ifCond .eq 11, 3) := by decide +kernel
theorem dX6_as_36 : decode cX6_as 36 = .ok (.aload_n 0, 1) := by decide +kernel
theorem dX6_as_37 : decode cX6_as 37 = .ok (.iload_n 1, 1) := by decide +kernel
theorem dX6_as_38 : decode cX6_as 38 = .ok (.invokevirtual 75, 3) := by decide +kernel
theorem dX6_as_41 : decode cX6_as 41 = .ok (.goto 8, 3) := by decide +kernel
theorem dX6_as_44 : decode cX6_as 44 = .ok (.aload_n 0, 1) := by decide +kernel
theorem dX6_as_45 : decode cX6_as 45 = .ok (.iconst 3, 1) := by decide +kernel
theorem dX6_as_46 : decode cX6_as 46 = .ok (.invokevirtual 67, 3) := by decide +kernel
theorem dX6_as_49 : decode cX6_as 49 = .ok (.ireturn, 1) := by decide +kernel
theorem dX6_ask_0 : decode cX6_ask 0 = .ok (.aload_n 0, 1) := by decide +kernel
theorem dX6_ask_1 : decode cX6_ask 1 = .ok (.iload_n 1, 1) := by decide +kernel
theorem dX6_ask_2 : decode cX6_ask 2 = .ok (.invokevirtual 206, 3) := by decide +kernel
theorem dX6_ask_5 : decode cX6_ask 5 = .ok (.ifCond .ne 12, 3) := by decide +kernel
theorem dX6_ask_8 : decode cX6_ask 8 = .ok (.iload_n 2, 1) := by decide +kernel
theorem dX6_ask_9 : decode cX6_ask 9 = .ok (.ifCond .lt 8, 3) := by decide +kernel
theorem dX6_ask_12 : decode cX6_ask 12 = .ok (.iload_n 2, 1) := by decide +kernel
theorem dX6_ask_13 : decode cX6_ask 13 = .ok (.iconst 1, 1) := by decide +kernel
theorem dX6_ask_14 : decode cX6_ask 14 = .ok (.if_icmp .le 6, 3) := by decide +kernel
theorem dX6_ask_17 : decode cX6_ask 17 = .ok (.ldc 66, 2) := by decide +kernel
theorem dX6_ask_19 : decode cX6_ask 19 = .ok (.ireturn, 1) := by decide +kernel
theorem dX6_ask_20 : decode cX6_ask 20 = .ok (.aload_n 0, 1) := by decide +kernel
theorem dX6_ask_21 : decode cX6_ask 21 = .ok (.iconst 0, 1) := by decide +kernel
theorem dX6_ask_22 : decode cX6_ask 22 = .ok (.putfield 333, 3) := by decide +kernel
theorem dX6_ask_25 : decode cX6_ask 25 = .ok (.aload_n 0, 1) := by decide +kernel
theorem dX6_ask_26 : decode cX6_ask 26 = .ok (.getfield 25, 3) := by decide +kernel
theorem dX6_ask_29 : decode cX6_ask 29 = .ok (.getfield 327, 3) := by decide +kernel
theorem dX6_ask_32 : decode cX6_ask 32 = .ok (.iload_n 1, 1) := by decide +kernel
theorem dX6_ask_33 : decode cX6_ask 33 = .ok (.iaload, 1) := by decide +kernel
theorem dX6_ask_34 : decode cX6_ask 34 = .ok (.iconst 1, 1) := by decide +kernel
theorem dX6_ask_35 : decode cX6_ask 35 = .ok (.invokestatic 330, 3) := by decide +kernel
theorem dX6_ask_38 : decode cX6_ask 38 = .ok (.ifCond .eq 21, 3) := by decide +kernel
theorem dX6_ask_41 : decode cX6_ask 41 = .ok (.iload_n 2, 1) := by decide +kernel
theorem dX6_ask_42 : decode cX6_ask 42 = .ok (.ifCond .ne 11, 3) := by decide +kernel
theorem dX6_ask_45 : decode cX6_ask 45 = .ok (.aload_n 0, 1) := by decide +kernel
theorem dX6_ask_46 : decode cX6_ask 46 = .ok (.iload_n 1, 1) := by decide +kernel
theorem dX6_ask_47 : decode cX6_ask 47 = .ok (.invokevirtual 336, 3) := by decide +kernel
theorem dX6_ask_50 : decode cX6_ask 50 = .ok (.goto 8, 3) := by decide +kernel
theorem dX6_ask_53 : decode cX6_ask 53 = .ok (.aload_n 0, 1) := by decide +kernel
theorem dX6_ask_54 : decode cX6_ask 54 = .ok (.iload_n 1, 1) := by decide +kernel
theorem dX6_ask_55 : decode cX6_ask 55 = .ok (.invokevirtual 339, 3) := by decide +kernel
theorem dX6_ask_58 : decode cX6_ask 58 = .ok (.ireturn, 1) := by decide +kernel
theorem dX6_ask_59 : decode cX6_ask 59 = .ok (.iload_n 2, 1) := by decide +kernel
theorem dX6_ask_60 : decode cX6_ask 60 = .ok (.ifCond .ne 11, 3) := by decide +kernel
theorem dX6_ask_63 : decode cX6_ask 63 = .ok (.aload_n 0, 1) := by decide +kernel
theorem dX6_ask_64 : decode cX6_ask 64 = .ok (.iload_n 1, 1) := by decide +kernel
theorem dX6_ask_65 : decode cX6_ask 65 = .ok (.invokevirtual 342, 3) := by decide +kernel
theorem dX6_ask_68 : decode cX6_ask 68 = .ok (.goto 8, 3) := by decide +kernel
theorem dX6_ask_71 : decode cX6_ask 71 = .ok (.aload_n 0, 1) := by decide +kernel
theorem dX6_ask_72 : decode cX6_ask 72 = .ok (.iload_n 1, 1) := by decide +kernel
theorem dX6_ask_73 : decode cX6_ask 73 = .ok (.invokevirtual 345, 3) := by decide +kernel
theorem dX6_ask_76 : decode cX6_ask 76 = .ok (.ireturn, 1) := by decide +kernel
theorem dX6_trace_0 : decode cX6_trace 0 = .ok (.iload_n 1, 1) := by decide +kernel
theorem dX6_trace_1 : decode cX6_trace 1 = .ok (.ifCond .lt 11, 3) := by decide +kernel
theorem dX6_trace_4 : decode cX6_trace 4 = .ok (.iload_n 1, 1) := by decide +kernel
theorem dX6_trace_5 : decode cX6_trace 5 = .ok (.aload_n 0, 1) := by decide +kernel
theorem dX6_trace_6 : decode cX6_trace 6 = .ok (.getfield 333, 3) := by decide +kernel
theorem dX6_trace_9 : decode cX6_trace 9 = .ok (.if_icmp .lt 8, 3) := by decide +kernel
theorem dX6_trace_12 : decode cX6_trace 12 = .ok (.ldc 181, 2) := by decide +kernel
theorem dX6_trace_14 : decode cX6_trace 14 = .ok (.goto 9, 3) := by decide +kernel
theorem dX6_trace_17 : decode cX6_trace 17 = .ok (.aload_n 0, 1) := by decide +kernel
theorem dX6_trace_18 : decode cX6_trace 18 = .ok (.getfield 57, 3) := by decide +kernel
theorem dX6_trace_21 : decode cX6_trace 21 = .ok (.iload_n 1, 1) := by decide +kernel
theorem dX6_trace_22 : decode cX6_trace 22 = .ok (.iaload, 1) := by decide +kernel
theorem dX6_trace_23 : decode cX6_trace 23 = .ok (.ireturn, 1) := by decide +kernel
theorem dX6_count_0 : decode cX6_count 0 = .ok (.iload_n 1, 1) := by decide +kernel
theorem dX6_count_1 : decode cX6_count 1 = .ok (.tableswitch 96 0 6 #[43, 48, 56, 64, 72, 80, 88], 43) := by decide +kernel
theorem dX6_count_44 : decode cX6_count 44 = .ok (.aload_n 0, 1) := by decide +kernel
theorem dX6_count_45 : decode cX6_count 45 = .ok (.invokevirtual 348, 3) := by decide +kernel
theorem dX6_count_48 : decode cX6_count 48 = .ok (.ireturn, 1) := by decide +kernel
theorem dX6_count_49 : decode cX6_count 49 = .ok (.aload_n 0, 1) := by decide +kernel
theorem dX6_count_50 : decode cX6_count 50 = .ok (.getfield 25, 3) := by decide +kernel
theorem dX6_count_53 : decode cX6_count 53 = .ok (.getfield 275, 3) := by decide +kernel
theorem dX6_count_56 : decode cX6_count 56 = .ok (.ireturn, 1) := by decide +kernel
theorem dX6_count_57 : decode cX6_count 57 = .ok (.aload_n 0, 1) := by decide +kernel
theorem dX6_count_58 : decode cX6_count 58 = .ok (.getfield 25, 3) := by decide +kernel
theorem dX6_count_61 : decode cX6_count 61 = .ok (.getfield 139, 3) := by decide +kernel
theorem dX6_count_64 : decode cX6_count 64 = .ok (.ireturn, 1) := by decide +kernel
theorem dX6_count_65 : decode cX6_count 65 = .ok (.aload_n 0, 1) := by decide +kernel
theorem dX6_count_66 : decode cX6_count 66 = .ok (.getfield 25, 3) := by decide +kernel
theorem dX6_count_69 : decode cX6_count 69 = .ok (.getfield 148, 3) := by decide +kernel
theorem dX6_count_72 : decode cX6_count 72 = .ok (.ireturn, 1) := by decide +kernel
theorem dX6_count_73 : decode cX6_count 73 = .ok (.aload_n 0, 1) := by decide +kernel
theorem dX6_count_74 : decode cX6_count 74 = .ok (.getfield 25, 3) := by decide +kernel
theorem dX6_count_77 : decode cX6_count 77 = .ok (.getfield 175, 3) := by decide +kernel
theorem dX6_count_80 : decode cX6_count 80 = .ok (.ireturn, 1) := by decide +kernel
theorem dX6_count_81 : decode cX6_count 81 = .ok (.aload_n 0, 1) := by decide +kernel
theorem dX6_count_82 : decode cX6_count 82 = .ok (.getfield 39, 3) := by decide +kernel
theorem dX6_count_85 : decode cX6_count 85 = .ok (.getfield 185, 3) := by decide +kernel
theorem dX6_count_88 : decode cX6_count 88 = .ok (.ireturn, 1) := by decide +kernel
theorem dX6_count_89 : decode cX6_count 89 = .ok (.aload_n 0, 1) := by decide +kernel
theorem dX6_count_90 : decode cX6_count 90 = .ok (.getfield 18, 3) := by decide +kernel
theorem dX6_count_93 : decode cX6_count 93 = .ok (.getfield 110, 3) := by decide +kernel
theorem dX6_count_96 : decode cX6_count 96 = .ok (.ireturn, 1) := by decide +kernel
theorem dX6_count_97 : decode cX6_count 97 = .ok (.ldc 66, 2) := by decide +kernel
theorem dX6_count_99 : decode cX6_count 99 = .ok (.ireturn, 1) := by decide +kernel
theorem dX6_status_0 : decode cX6_status 0 = .ok (.aload_n 0, 1) := by decide +kernel
theorem dX6_status_1 : decode cX6_status 1 = .ok (.getfield 351, 3) := by decide +kernel
theorem dX6_status_4 : decode cX6_status 4 = .ok (.ireturn, 1) := by decide +kernel
theorem dX6_found_0 : decode cX6_found 0 = .ok (.aload_n 0, 1) := by decide +kernel
theorem dX6_found_1 : decode cX6_found 1 = .ok (.iload_n 1, 1) := by decide +kernel
theorem dX6_found_2 : decode cX6_found 2 = .ok (.putfield 351, 3) := by decide +kernel
theorem dX6_found_5 : decode cX6_found 5 = .ok (.ldc_w 354, 3) := by decide +kernel
theorem dX6_found_8 : decode cX6_found 8 = .ok (.iload_n 1, 1) := by decide +kernel
theorem dX6_found_9 : decode cX6_found 9 = .ok (.isub, 1) := by decide +kernel
theorem dX6_found_10 : decode cX6_found 10 = .ok (.ireturn, 1) := by decide +kernel
theorem dX6_unfound_0 : decode cX6_unfound 0 = .ok (.aload_n 0, 1) := by decide +kernel
theorem dX6_unfound_1 : decode cX6_unfound 1 = .ok (.iconst 0, 1) := by decide +kernel
theorem dX6_unfound_2 : decode cX6_unfound 2 = .ok (.putfield 351, 3) := by decide +kernel
theorem dX6_unfound_5 : decode cX6_unfound 5 = .ok (.iload_n 1, 1) := by decide +kernel
theorem dX6_unfound_6 : decode cX6_unfound 6 = .ok (.ireturn, 1) := by decide +kernel
theorem dX6_findingOf_0 : decode cX6_findingOf 0 = .ok (.aload_n 0, 1) := by decide +kernel
theorem dX6_findingOf_1 : decode cX6_findingOf 1 = .ok (.getfield 11, 3) := by decide +kernel
theorem dX6_findingOf_4 : decode cX6_findingOf 4 = .ok (.iload_n 1, 1) := by decide +kernel
theorem dX6_findingOf_5 : decode cX6_findingOf 5 = .ok (.aaload, 1) := by decide +kernel
theorem dX6_findingOf_6 : decode cX6_findingOf 6 = .ok (.getfield 86, 3) := by decide +kernel
theorem dX6_findingOf_9 : decode cX6_findingOf 9 = .ok (.ifCond .ne 5, 3) := by decide +kernel
theorem dX6_findingOf_12 : decode cX6_findingOf 12 = .ok (.iconst 1, 1) := by decide +kernel
theorem dX6_findingOf_13 : decode cX6_findingOf 13 = .ok (.ireturn, 1) := by decide +kernel
theorem dX6_findingOf_14 : decode cX6_findingOf 14 = .ok (.aload_n 0, 1) := by decide +kernel
theorem dX6_findingOf_15 : decode cX6_findingOf 15 = .ok (.getfield 11, 3) := by decide +kernel
theorem dX6_findingOf_18 : decode cX6_findingOf 18 = .ok (.iload_n 1, 1) := by decide +kernel
theorem dX6_findingOf_19 : decode cX6_findingOf 19 = .ok (.aaload, 1) := by decide +kernel
theorem dX6_findingOf_20 : decode cX6_findingOf 20 = .ok (.iload_n 2, 1) := by decide +kernel
theorem dX6_findingOf_21 : decode cX6_findingOf 21 = .ok (.iload_n 3, 1) := by decide +kernel
theorem dX6_findingOf_22 : decode cX6_findingOf 22 = .ok (.invokevirtual 94, 3) := by decide +kernel
theorem dX6_findingOf_25 : decode cX6_findingOf 25 = .ok (.ifCond .eq 7, 3) := by decide +kernel
theorem dX6_findingOf_28 : decode cX6_findingOf 28 = .ok (.iconst 0, 1) := by decide +kernel
theorem dX6_findingOf_29 : decode cX6_findingOf 29 = .ok (.goto 4, 3) := by decide +kernel
theorem dX6_findingOf_32 : decode cX6_findingOf 32 = .ok (.iconst 2, 1) := by decide +kernel
theorem dX6_findingOf_33 : decode cX6_findingOf 33 = .ok (.ireturn, 1) := by decide +kernel
theorem dX6_rowsThere_0 : decode cX6_rowsThere 0 = .ok (.iconst 0, 1) := by decide +kernel
theorem dX6_rowsThere_1 : decode cX6_rowsThere 1 = .ok (.istore_n 1, 1) := by decide +kernel
theorem dX6_rowsThere_2 : decode cX6_rowsThere 2 = .ok (.iconst 0, 1) := by decide +kernel
theorem dX6_rowsThere_3 : decode cX6_rowsThere 3 = .ok (.istore_n 2, 1) := by decide +kernel
theorem dX6_rowsThere_4 : decode cX6_rowsThere 4 = .ok (.iload_n 2, 1) := by decide +kernel
theorem dX6_rowsThere_5 : decode cX6_rowsThere 5 = .ok (.bipush 8, 2) := by decide +kernel
theorem dX6_rowsThere_7 : decode cX6_rowsThere 7 = .ok (.if_icmp .ge 24, 3) := by decide +kernel
theorem dX6_rowsThere_10 : decode cX6_rowsThere 10 = .ok (.aload_n 0, 1) := by decide +kernel
theorem dX6_rowsThere_11 : decode cX6_rowsThere 11 = .ok (.getfield 11, 3) := by decide +kernel
theorem dX6_rowsThere_14 : decode cX6_rowsThere 14 = .ok (.iload_n 2, 1) := by decide +kernel
theorem dX6_rowsThere_15 : decode cX6_rowsThere 15 = .ok (.aaload, 1) := by decide +kernel
theorem dX6_rowsThere_16 : decode cX6_rowsThere 16 = .ok (.getfield 86, 3) := by decide +kernel
theorem dX6_rowsThere_19 : decode cX6_rowsThere 19 = .ok (.ifCond .eq 6, 3) := by decide +kernel
theorem dX6_rowsThere_22 : decode cX6_rowsThere 22 = .ok (.iinc 1 1, 3) := by decide +kernel
theorem dX6_rowsThere_25 : decode cX6_rowsThere 25 = .ok (.iinc 2 1, 3) := by decide +kernel
theorem dX6_rowsThere_28 : decode cX6_rowsThere 28 = .ok (.goto (-24), 3) := by decide +kernel
theorem dX6_rowsThere_31 : decode cX6_rowsThere 31 = .ok (.iload_n 1, 1) := by decide +kernel
theorem dX6_rowsThere_32 : decode cX6_rowsThere 32 = .ok (.ireturn, 1) := by decide +kernel
theorem dX6_isNoRow_0 : decode cX6_isNoRow 0 = .ok (.iload_n 1, 1) := by decide +kernel
theorem dX6_isNoRow_1 : decode cX6_isNoRow 1 = .ok (.ifCond .lt 9, 3) := by decide +kernel
theorem dX6_isNoRow_4 : decode cX6_isNoRow 4 = .ok (.iload_n 1, 1) := by decide +kernel
theorem dX6_isNoRow_5 : decode cX6_isNoRow 5 = .ok (.bipush 8, 2) := by decide +kernel
theorem dX6_isNoRow_7 : decode cX6_isNoRow 7 = .ok (.if_icmp .lt 7, 3) := by decide +kernel
theorem dX6_isNoRow_10 : decode cX6_isNoRow 10 = .ok (.iconst 1, 1) := by decide +kernel
theorem dX6_isNoRow_11 : decode cX6_isNoRow 11 = .ok (.goto 4, 3) := by decide +kernel
theorem dX6_isNoRow_14 : decode cX6_isNoRow 14 = .ok (.iconst 0, 1) := by decide +kernel
theorem dX6_isNoRow_15 : decode cX6_isNoRow 15 = .ok (.ireturn, 1) := by decide +kernel
theorem dX6_isNoBuyer_0 : decode cX6_isNoBuyer 0 = .ok (.iload_n 1, 1) := by decide +kernel
theorem dX6_isNoBuyer_1 : decode cX6_isNoBuyer 1 = .ok (.ifCond .lt 14, 3) := by decide +kernel
theorem dX6_isNoBuyer_4 : decode cX6_isNoBuyer 4 = .ok (.iload_n 1, 1) := by decide +kernel
theorem dX6_isNoBuyer_5 : decode cX6_isNoBuyer 5 = .ok (.aload_n 0, 1) := by decide +kernel
theorem dX6_isNoBuyer_6 : decode cX6_isNoBuyer 6 = .ok (.getfield 25, 3) := by decide +kernel
theorem dX6_isNoBuyer_9 : decode cX6_isNoBuyer 9 = .ok (.getfield 275, 3) := by decide +kernel
theorem dX6_isNoBuyer_12 : decode cX6_isNoBuyer 12 = .ok (.if_icmp .lt 7, 3) := by decide +kernel
theorem dX6_isNoBuyer_15 : decode cX6_isNoBuyer 15 = .ok (.iconst 1, 1) := by decide +kernel
theorem dX6_isNoBuyer_16 : decode cX6_isNoBuyer 16 = .ok (.goto 4, 3) := by decide +kernel
theorem dX6_isNoBuyer_19 : decode cX6_isNoBuyer 19 = .ok (.iconst 0, 1) := by decide +kernel
theorem dX6_isNoBuyer_20 : decode cX6_isNoBuyer 20 = .ok (.ireturn, 1) := by decide +kernel
theorem dX6_areNoTwo_0 : decode cX6_areNoTwo 0 = .ok (.aload_n 0, 1) := by decide +kernel
theorem dX6_areNoTwo_1 : decode cX6_areNoTwo 1 = .ok (.iload_n 1, 1) := by decide +kernel
theorem dX6_areNoTwo_2 : decode cX6_areNoTwo 2 = .ok (.invokevirtual 142, 3) := by decide +kernel
theorem dX6_areNoTwo_5 : decode cX6_areNoTwo 5 = .ok (.ifCond .ne 16, 3) := by decide +kernel
theorem dX6_areNoTwo_8 : decode cX6_areNoTwo 8 = .ok (.aload_n 0, 1) := by decide +kernel
theorem dX6_areNoTwo_9 : decode cX6_areNoTwo 9 = .ok (.iload_n 2, 1) := by decide +kernel
theorem dX6_areNoTwo_10 : decode cX6_areNoTwo 10 = .ok (.invokevirtual 142, 3) := by decide +kernel
theorem dX6_areNoTwo_13 : decode cX6_areNoTwo 13 = .ok (.ifCond .ne 8, 3) := by decide +kernel
theorem dX6_areNoTwo_16 : decode cX6_areNoTwo 16 = .ok (.iload_n 1, 1) := by decide +kernel
theorem dX6_areNoTwo_17 : decode cX6_areNoTwo 17 = .ok (.iload_n 2, 1) := by decide +kernel
theorem dX6_areNoTwo_18 : decode cX6_areNoTwo 18 = .ok (.if_icmp .ne 7, 3) := by decide +kernel
theorem dX6_areNoTwo_21 : decode cX6_areNoTwo 21 = .ok (.iconst 1, 1) := by decide +kernel
theorem dX6_areNoTwo_22 : decode cX6_areNoTwo 22 = .ok (.goto 4, 3) := by decide +kernel
theorem dX6_areNoTwo_25 : decode cX6_areNoTwo 25 = .ok (.iconst 0, 1) := by decide +kernel
theorem dX6_areNoTwo_26 : decode cX6_areNoTwo 26 = .ok (.ireturn, 1) := by decide +kernel
theorem dX6_isNoWare_0 : decode cX6_isNoWare 0 = .ok (.iload_n 1, 1) := by decide +kernel
theorem dX6_isNoWare_1 : decode cX6_isNoWare 1 = .ok (.ifCond .lt 14, 3) := by decide +kernel
theorem dX6_isNoWare_4 : decode cX6_isNoWare 4 = .ok (.iload_n 1, 1) := by decide +kernel
theorem dX6_isNoWare_5 : decode cX6_isNoWare 5 = .ok (.aload_n 0, 1) := by decide +kernel
theorem dX6_isNoWare_6 : decode cX6_isNoWare 6 = .ok (.getfield 25, 3) := by decide +kernel
theorem dX6_isNoWare_9 : decode cX6_isNoWare 9 = .ok (.getfield 139, 3) := by decide +kernel
theorem dX6_isNoWare_12 : decode cX6_isNoWare 12 = .ok (.if_icmp .lt 7, 3) := by decide +kernel
theorem dX6_isNoWare_15 : decode cX6_isNoWare 15 = .ok (.iconst 1, 1) := by decide +kernel
theorem dX6_isNoWare_16 : decode cX6_isNoWare 16 = .ok (.goto 4, 3) := by decide +kernel
theorem dX6_isNoWare_19 : decode cX6_isNoWare 19 = .ok (.iconst 0, 1) := by decide +kernel
theorem dX6_isNoWare_20 : decode cX6_isNoWare 20 = .ok (.ireturn, 1) := by decide +kernel
theorem dX6_isNoEnd_0 : decode cX6_isNoEnd 0 = .ok (.iload_n 1, 1) := by decide +kernel
theorem dX6_isNoEnd_1 : decode cX6_isNoEnd 1 = .ok (.ifCond .eq 12, 3) := by decide +kernel
theorem dX6_isNoEnd_4 : decode cX6_isNoEnd 4 = .ok (.iload_n 1, 1) := by decide +kernel
theorem dX6_isNoEnd_5 : decode cX6_isNoEnd 5 = .ok (.iconst 1, 1) := by decide +kernel
theorem dX6_isNoEnd_6 : decode cX6_isNoEnd 6 = .ok (.if_icmp .eq 7, 3) := by decide +kernel
theorem dX6_isNoEnd_9 : decode cX6_isNoEnd 9 = .ok (.iconst 1, 1) := by decide +kernel
theorem dX6_isNoEnd_10 : decode cX6_isNoEnd 10 = .ok (.goto 4, 3) := by decide +kernel
theorem dX6_isNoEnd_13 : decode cX6_isNoEnd 13 = .ok (.iconst 0, 1) := by decide +kernel
theorem dX6_isNoEnd_14 : decode cX6_isNoEnd 14 = .ok (.ireturn, 1) := by decide +kernel
theorem dX6_isSuch_0 : decode cX6_isSuch 0 = .ok (.iload_n 1, 1) := by decide +kernel
theorem dX6_isSuch_1 : decode cX6_isSuch 1 = .ok (.ifCond .eq 17, 3) := by decide +kernel
theorem dX6_isSuch_4 : decode cX6_isSuch 4 = .ok (.iload_n 1, 1) := by decide +kernel
theorem dX6_isSuch_5 : decode cX6_isSuch 5 = .ok (.iload_n 0, 1) := by decide +kernel
theorem dX6_isSuch_6 : decode cX6_isSuch 6 = .ok (.if_icmp .eq 12, 3) := by decide +kernel
theorem dX6_isSuch_9 : decode cX6_isSuch 9 = .ok (.iload_n 1, 1) := by decide +kernel
theorem dX6_isSuch_10 : decode cX6_isSuch 10 = .ok (.getstatic 355, 3) := by decide +kernel
theorem dX6_isSuch_13 : decode cX6_isSuch 13 = .ok (.iload_n 0, 1) := by decide +kernel
theorem dX6_isSuch_14 : decode cX6_isSuch 14 = .ok (.iaload, 1) := by decide +kernel
theorem dX6_isSuch_15 : decode cX6_isSuch 15 = .ok (.if_icmp .ne 7, 3) := by decide +kernel
theorem dX6_isSuch_18 : decode cX6_isSuch 18 = .ok (.iconst 1, 1) := by decide +kernel
theorem dX6_isSuch_19 : decode cX6_isSuch 19 = .ok (.goto 4, 3) := by decide +kernel
theorem dX6_isSuch_22 : decode cX6_isSuch 22 = .ok (.iconst 0, 1) := by decide +kernel
theorem dX6_isSuch_23 : decode cX6_isSuch 23 = .ok (.ireturn, 1) := by decide +kernel
theorem dX6_leave_0 : decode cX6_leave 0 = .ok (.aload_n 0, 1) := by decide +kernel
theorem dX6_leave_1 : decode cX6_leave 1 = .ok (.getfield 333, 3) := by decide +kernel
theorem dX6_leave_4 : decode cX6_leave 4 = .ok (.bipush 16, 2) := by decide +kernel
theorem dX6_leave_6 : decode cX6_leave 6 = .ok (.if_icmp .ge 23, 3) := by decide +kernel
theorem dX6_leave_9 : decode cX6_leave 9 = .ok (.aload_n 0, 1) := by decide +kernel
theorem dX6_leave_10 : decode cX6_leave 10 = .ok (.getfield 57, 3) := by decide +kernel
theorem dX6_leave_13 : decode cX6_leave 13 = .ok (.aload_n 0, 1) := by decide +kernel
theorem dX6_leave_14 : decode cX6_leave 14 = .ok (.getfield 333, 3) := by decide +kernel
theorem dX6_leave_17 : decode cX6_leave 17 = .ok (.iload_n 1, 1) := by decide +kernel
theorem dX6_leave_18 : decode cX6_leave 18 = .ok (.iastore, 1) := by decide +kernel
theorem dX6_leave_19 : decode cX6_leave 19 = .ok (.aload_n 0, 1) := by decide +kernel
theorem dX6_leave_20 : decode cX6_leave 20 = .ok (.dup, 1) := by decide +kernel
theorem dX6_leave_21 : decode cX6_leave 21 = .ok (.getfield 333, 3) := by decide +kernel
theorem dX6_leave_24 : decode cX6_leave 24 = .ok (.iconst 1, 1) := by decide +kernel
theorem dX6_leave_25 : decode cX6_leave 25 = .ok (.iadd, 1) := by decide +kernel
theorem dX6_leave_26 : decode cX6_leave 26 = .ok (.putfield 333, 3) := by decide +kernel
theorem dX6_leave_29 : decode cX6_leave 29 = .ok (.return_, 1) := by decide +kernel
theorem dX6_sizeLent_0 : decode cX6_sizeLent 0 = .ok (.aload_n 0, 1) := by decide +kernel
theorem dX6_sizeLent_1 : decode cX6_sizeLent 1 = .ok (.bipush 10, 2) := by decide +kernel
theorem dX6_sizeLent_3 : decode cX6_sizeLent 3 = .ok (.invokevirtual 358, 3) := by decide +kernel
theorem dX6_sizeLent_6 : decode cX6_sizeLent 6 = .ok (.aload_n 0, 1) := by decide +kernel
theorem dX6_sizeLent_7 : decode cX6_sizeLent 7 = .ok (.getfield 25, 3) := by decide +kernel
theorem dX6_sizeLent_10 : decode cX6_sizeLent 10 = .ok (.getfield 209, 3) := by decide +kernel
theorem dX6_sizeLent_13 : decode cX6_sizeLent 13 = .ok (.iload_n 1, 1) := by decide +kernel
theorem dX6_sizeLent_14 : decode cX6_sizeLent 14 = .ok (.iaload, 1) := by decide +kernel
theorem dX6_sizeLent_15 : decode cX6_sizeLent 15 = .ok (.ireturn, 1) := by decide +kernel
theorem dX6_sizeOfFruit_0 : decode cX6_sizeOfFruit 0 = .ok (.aload_n 0, 1) := by decide +kernel
theorem dX6_sizeOfFruit_1 : decode cX6_sizeOfFruit 1 = .ok (.getfield 25, 3) := by decide +kernel
theorem dX6_sizeOfFruit_4 : decode cX6_sizeOfFruit 4 = .ok (.getfield 327, 3) := by decide +kernel
theorem dX6_sizeOfFruit_7 : decode cX6_sizeOfFruit 7 = .ok (.iload_n 1, 1) := by decide +kernel
theorem dX6_sizeOfFruit_8 : decode cX6_sizeOfFruit 8 = .ok (.iaload, 1) := by decide +kernel
theorem dX6_sizeOfFruit_9 : decode cX6_sizeOfFruit 9 = .ok (.iconst 2, 1) := by decide +kernel
theorem dX6_sizeOfFruit_10 : decode cX6_sizeOfFruit 10 = .ok (.if_icmp .ne 7, 3) := by decide +kernel
theorem dX6_sizeOfFruit_13 : decode cX6_sizeOfFruit 13 = .ok (.iconst 1, 1) := by decide +kernel
theorem dX6_sizeOfFruit_14 : decode cX6_sizeOfFruit 14 = .ok (.goto 4, 3) := by decide +kernel
theorem dX6_sizeOfFruit_17 : decode cX6_sizeOfFruit 17 = .ok (.iconst 0, 1) := by decide +kernel
theorem dX6_sizeOfFruit_18 : decode cX6_sizeOfFruit 18 = .ok (.istore_n 2, 1) := by decide +kernel
theorem dX6_sizeOfFruit_19 : decode cX6_sizeOfFruit 19 = .ok (.iload_n 2, 1) := by decide +kernel
theorem dX6_sizeOfFruit_20 : decode cX6_sizeOfFruit 20 = .ok (.ifCond .eq 9, 3) := by decide +kernel
theorem dX6_sizeOfFruit_23 : decode cX6_sizeOfFruit 23 = .ok (.aload_n 0, 1) := by decide +kernel
theorem dX6_sizeOfFruit_24 : decode cX6_sizeOfFruit 24 = .ok (.bipush 12, 2) := by decide +kernel
theorem dX6_sizeOfFruit_26 : decode cX6_sizeOfFruit 26 = .ok (.invokevirtual 358, 3) := by decide +kernel
theorem dX6_sizeOfFruit_29 : decode cX6_sizeOfFruit 29 = .ok (.aload_n 0, 1) := by decide +kernel
theorem dX6_sizeOfFruit_30 : decode cX6_sizeOfFruit 30 = .ok (.bipush 11, 2) := by decide +kernel
theorem dX6_sizeOfFruit_32 : decode cX6_sizeOfFruit 32 = .ok (.invokevirtual 358, 3) := by decide +kernel
theorem dX6_sizeOfFruit_35 : decode cX6_sizeOfFruit 35 = .ok (.aload_n 0, 1) := by decide +kernel
theorem dX6_sizeOfFruit_36 : decode cX6_sizeOfFruit 36 = .ok (.iload_n 1, 1) := by decide +kernel
theorem dX6_sizeOfFruit_37 : decode cX6_sizeOfFruit 37 = .ok (.invokevirtual 361, 3) := by decide +kernel
theorem dX6_sizeOfFruit_40 : decode cX6_sizeOfFruit 40 = .ok (.aload_n 0, 1) := by decide +kernel
theorem dX6_sizeOfFruit_41 : decode cX6_sizeOfFruit 41 = .ok (.iload_n 1, 1) := by decide +kernel
theorem dX6_sizeOfFruit_42 : decode cX6_sizeOfFruit 42 = .ok (.invokevirtual 339, 3) := by decide +kernel
theorem dX6_sizeOfFruit_45 : decode cX6_sizeOfFruit 45 = .ok (.iadd, 1) := by decide +kernel
theorem dX6_sizeOfFruit_46 : decode cX6_sizeOfFruit 46 = .ok (.istore_n 3, 1) := by decide +kernel
theorem dX6_sizeOfFruit_47 : decode cX6_sizeOfFruit 47 = .ok (.iload_n 2, 1) := by decide +kernel
theorem dX6_sizeOfFruit_48 : decode cX6_sizeOfFruit 48 = .ok (.ifCond .eq 8, 3) := by decide +kernel
theorem dX6_sizeOfFruit_51 : decode cX6_sizeOfFruit 51 = .ok (.iload_n 3, 1) := by decide +kernel
theorem dX6_sizeOfFruit_52 : decode cX6_sizeOfFruit 52 = .ok (.ineg, 1) := by decide +kernel
theorem dX6_sizeOfFruit_53 : decode cX6_sizeOfFruit 53 = .ok (.goto 4, 3) := by decide +kernel
theorem dX6_sizeOfFruit_56 : decode cX6_sizeOfFruit 56 = .ok (.iload_n 3, 1) := by decide +kernel
theorem dX6_sizeOfFruit_57 : decode cX6_sizeOfFruit 57 = .ok (.ireturn, 1) := by decide +kernel
theorem dX6_sizeOfCloth_0 : decode cX6_sizeOfCloth 0 = .ok (.aload_n 0, 1) := by decide +kernel
theorem dX6_sizeOfCloth_1 : decode cX6_sizeOfCloth 1 = .ok (.getfield 25, 3) := by decide +kernel
theorem dX6_sizeOfCloth_4 : decode cX6_sizeOfCloth 4 = .ok (.getfield 327, 3) := by decide +kernel
theorem dX6_sizeOfCloth_7 : decode cX6_sizeOfCloth 7 = .ok (.iload_n 1, 1) := by decide +kernel
theorem dX6_sizeOfCloth_8 : decode cX6_sizeOfCloth 8 = .ok (.iaload, 1) := by decide +kernel
theorem dX6_sizeOfCloth_9 : decode cX6_sizeOfCloth 9 = .ok (.iconst 5, 1) := by decide +kernel
theorem dX6_sizeOfCloth_10 : decode cX6_sizeOfCloth 10 = .ok (.if_icmp .ne 7, 3) := by decide +kernel
theorem dX6_sizeOfCloth_13 : decode cX6_sizeOfCloth 13 = .ok (.iconst 1, 1) := by decide +kernel
theorem dX6_sizeOfCloth_14 : decode cX6_sizeOfCloth 14 = .ok (.goto 4, 3) := by decide +kernel
theorem dX6_sizeOfCloth_17 : decode cX6_sizeOfCloth 17 = .ok (.iconst 0, 1) := by decide +kernel
theorem dX6_sizeOfCloth_18 : decode cX6_sizeOfCloth 18 = .ok (.istore_n 2, 1) := by decide +kernel
theorem dX6_sizeOfCloth_19 : decode cX6_sizeOfCloth 19 = .ok (.iload_n 2, 1) := by decide +kernel
theorem dX6_sizeOfCloth_20 : decode cX6_sizeOfCloth 20 = .ok (.ifCond .eq 9, 3) := by decide +kernel
theorem dX6_sizeOfCloth_23 : decode cX6_sizeOfCloth 23 = .ok (.aload_n 0, 1) := by decide +kernel
theorem dX6_sizeOfCloth_24 : decode cX6_sizeOfCloth 24 = .ok (.bipush 14, 2) := by decide +kernel
theorem dX6_sizeOfCloth_26 : decode cX6_sizeOfCloth 26 = .ok (.invokevirtual 358, 3) := by decide +kernel
theorem dX6_sizeOfCloth_29 : decode cX6_sizeOfCloth 29 = .ok (.aload_n 0, 1) := by decide +kernel
theorem dX6_sizeOfCloth_30 : decode cX6_sizeOfCloth 30 = .ok (.bipush 13, 2) := by decide +kernel
theorem dX6_sizeOfCloth_32 : decode cX6_sizeOfCloth 32 = .ok (.invokevirtual 358, 3) := by decide +kernel
theorem dX6_sizeOfCloth_35 : decode cX6_sizeOfCloth 35 = .ok (.aload_n 0, 1) := by decide +kernel
theorem dX6_sizeOfCloth_36 : decode cX6_sizeOfCloth 36 = .ok (.iload_n 1, 1) := by decide +kernel
theorem dX6_sizeOfCloth_37 : decode cX6_sizeOfCloth 37 = .ok (.invokevirtual 361, 3) := by decide +kernel
theorem dX6_sizeOfCloth_40 : decode cX6_sizeOfCloth 40 = .ok (.bipush 100, 2) := by decide +kernel
theorem dX6_sizeOfCloth_42 : decode cX6_sizeOfCloth 42 = .ok (.isub, 1) := by decide +kernel
theorem dX6_sizeOfCloth_43 : decode cX6_sizeOfCloth 43 = .ok (.istore_n 3, 1) := by decide +kernel
theorem dX6_sizeOfCloth_44 : decode cX6_sizeOfCloth 44 = .ok (.iload_n 2, 1) := by decide +kernel
theorem dX6_sizeOfCloth_45 : decode cX6_sizeOfCloth 45 = .ok (.ifCond .eq 9, 3) := by decide +kernel
theorem dX6_sizeOfCloth_48 : decode cX6_sizeOfCloth 48 = .ok (.iconst 2, 1) := by decide +kernel
theorem dX6_sizeOfCloth_49 : decode cX6_sizeOfCloth 49 = .ok (.iload_n 3, 1) := by decide +kernel
theorem dX6_sizeOfCloth_50 : decode cX6_sizeOfCloth 50 = .ok (.imul, 1) := by decide +kernel
theorem dX6_sizeOfCloth_51 : decode cX6_sizeOfCloth 51 = .ok (.goto 4, 3) := by decide +kernel
theorem dX6_sizeOfCloth_54 : decode cX6_sizeOfCloth 54 = .ok (.iload_n 3, 1) := by decide +kernel
theorem dX6_sizeOfCloth_55 : decode cX6_sizeOfCloth 55 = .ok (.ireturn, 1) := by decide +kernel
theorem dX6_markLent_0 : decode cX6_markLent 0 = .ok (.aload_n 0, 1) := by decide +kernel
theorem dX6_markLent_1 : decode cX6_markLent 1 = .ok (.bipush 20, 2) := by decide +kernel
theorem dX6_markLent_3 : decode cX6_markLent 3 = .ok (.invokevirtual 358, 3) := by decide +kernel
theorem dX6_markLent_6 : decode cX6_markLent 6 = .ok (.iload_n 1, 1) := by decide +kernel
theorem dX6_markLent_7 : decode cX6_markLent 7 = .ok (.ireturn, 1) := by decide +kernel
theorem dX6_markOfFruit_0 : decode cX6_markOfFruit 0 = .ok (.aload_n 0, 1) := by decide +kernel
theorem dX6_markOfFruit_1 : decode cX6_markOfFruit 1 = .ok (.getfield 25, 3) := by decide +kernel
theorem dX6_markOfFruit_4 : decode cX6_markOfFruit 4 = .ok (.getfield 327, 3) := by decide +kernel
theorem dX6_markOfFruit_7 : decode cX6_markOfFruit 7 = .ok (.iload_n 1, 1) := by decide +kernel
theorem dX6_markOfFruit_8 : decode cX6_markOfFruit 8 = .ok (.iaload, 1) := by decide +kernel
theorem dX6_markOfFruit_9 : decode cX6_markOfFruit 9 = .ok (.istore_n 2, 1) := by decide +kernel
theorem dX6_markOfFruit_10 : decode cX6_markOfFruit 10 = .ok (.iload_n 2, 1) := by decide +kernel
theorem dX6_markOfFruit_11 : decode cX6_markOfFruit 11 = .ok (.iconst 2, 1) := by decide +kernel
theorem dX6_markOfFruit_12 : decode cX6_markOfFruit 12 = .ok (.if_icmp .ne 12, 3) := by decide +kernel
theorem dX6_markOfFruit_15 : decode cX6_markOfFruit 15 = .ok (.aload_n 0, 1) := by decide +kernel
theorem dX6_markOfFruit_16 : decode cX6_markOfFruit 16 = .ok (.bipush 24, 2) := by decide +kernel
theorem dX6_markOfFruit_18 : decode cX6_markOfFruit 18 = .ok (.invokevirtual 358, 3) := by decide +kernel
theorem dX6_markOfFruit_21 : decode cX6_markOfFruit 21 = .ok (.goto 14, 3) := by decide +kernel
theorem dX6_markOfFruit_24 : decode cX6_markOfFruit 24 = .ok (.iload_n 2, 1) := by decide +kernel
theorem dX6_markOfFruit_25 : decode cX6_markOfFruit 25 = .ok (.iconst 3, 1) := by decide +kernel
theorem dX6_markOfFruit_26 : decode cX6_markOfFruit 26 = .ok (.if_icmp .ne 9, 3) := by decide +kernel
theorem dX6_markOfFruit_29 : decode cX6_markOfFruit 29 = .ok (.aload_n 0, 1) := by decide +kernel
theorem dX6_markOfFruit_30 : decode cX6_markOfFruit 30 = .ok (.bipush 22, 2) := by decide +kernel
theorem dX6_markOfFruit_32 : decode cX6_markOfFruit 32 = .ok (.invokevirtual 358, 3) := by decide +kernel
theorem dX6_markOfFruit_35 : decode cX6_markOfFruit 35 = .ok (.aload_n 0, 1) := by decide +kernel
theorem dX6_markOfFruit_36 : decode cX6_markOfFruit 36 = .ok (.bipush 21, 2) := by decide +kernel
theorem dX6_markOfFruit_38 : decode cX6_markOfFruit 38 = .ok (.invokevirtual 358, 3) := by decide +kernel
theorem dX6_markOfFruit_41 : decode cX6_markOfFruit 41 = .ok (.aload_n 0, 1) := by decide +kernel
theorem dX6_markOfFruit_42 : decode cX6_markOfFruit 42 = .ok (.iload_n 1, 1) := by decide +kernel
theorem dX6_markOfFruit_43 : decode cX6_markOfFruit 43 = .ok (.invokevirtual 364, 3) := by decide +kernel
theorem dX6_markOfFruit_46 : decode cX6_markOfFruit 46 = .ok (.aload_n 0, 1) := by decide +kernel
theorem dX6_markOfFruit_47 : decode cX6_markOfFruit 47 = .ok (.getfield 25, 3) := by decide +kernel
theorem dX6_markOfFruit_50 : decode cX6_markOfFruit 50 = .ok (.getfield 212, 3) := by decide +kernel
theorem dX6_markOfFruit_53 : decode cX6_markOfFruit 53 = .ok (.iload_n 1, 1) := by decide +kernel
theorem dX6_markOfFruit_54 : decode cX6_markOfFruit 54 = .ok (.iaload, 1) := by decide +kernel
theorem dX6_markOfFruit_55 : decode cX6_markOfFruit 55 = .ok (.iadd, 1) := by decide +kernel
theorem dX6_markOfFruit_56 : decode cX6_markOfFruit 56 = .ok (.istore_n 3, 1) := by decide +kernel
theorem dX6_markOfFruit_57 : decode cX6_markOfFruit 57 = .ok (.iload_n 2, 1) := by decide +kernel
theorem dX6_markOfFruit_58 : decode cX6_markOfFruit 58 = .ok (.iconst 2, 1) := by decide +kernel
theorem dX6_markOfFruit_59 : decode cX6_markOfFruit 59 = .ok (.if_icmp .ne 7, 3) := by decide +kernel
theorem dX6_markOfFruit_62 : decode cX6_markOfFruit 62 = .ok (.iconst 2, 1) := by decide +kernel
theorem dX6_markOfFruit_63 : decode cX6_markOfFruit 63 = .ok (.iload_n 3, 1) := by decide +kernel
theorem dX6_markOfFruit_64 : decode cX6_markOfFruit 64 = .ok (.imul, 1) := by decide +kernel
theorem dX6_markOfFruit_65 : decode cX6_markOfFruit 65 = .ok (.ireturn, 1) := by decide +kernel
theorem dX6_markOfFruit_66 : decode cX6_markOfFruit 66 = .ok (.iload_n 2, 1) := by decide +kernel
theorem dX6_markOfFruit_67 : decode cX6_markOfFruit 67 = .ok (.iconst 3, 1) := by decide +kernel
theorem dX6_markOfFruit_68 : decode cX6_markOfFruit 68 = .ok (.if_icmp .ne 11, 3) := by decide +kernel
theorem dX6_markOfFruit_71 : decode cX6_markOfFruit 71 = .ok (.iload_n 3, 1) := by decide +kernel
theorem dX6_markOfFruit_72 : decode cX6_markOfFruit 72 = .ok (.sipush 1000, 3) := by decide +kernel
theorem dX6_markOfFruit_75 : decode cX6_markOfFruit 75 = .ok (.isub, 1) := by decide +kernel
theorem dX6_markOfFruit_76 : decode cX6_markOfFruit 76 = .ok (.goto 4, 3) := by decide +kernel
theorem dX6_markOfFruit_79 : decode cX6_markOfFruit 79 = .ok (.iload_n 3, 1) := by decide +kernel
theorem dX6_markOfFruit_80 : decode cX6_markOfFruit 80 = .ok (.ireturn, 1) := by decide +kernel
theorem dX6_markOfCloth_0 : decode cX6_markOfCloth 0 = .ok (.aload_n 0, 1) := by decide +kernel
theorem dX6_markOfCloth_1 : decode cX6_markOfCloth 1 = .ok (.bipush 23, 2) := by decide +kernel
theorem dX6_markOfCloth_3 : decode cX6_markOfCloth 3 = .ok (.invokevirtual 358, 3) := by decide +kernel
theorem dX6_markOfCloth_6 : decode cX6_markOfCloth 6 = .ok (.aload_n 0, 1) := by decide +kernel
theorem dX6_markOfCloth_7 : decode cX6_markOfCloth 7 = .ok (.iload_n 1, 1) := by decide +kernel
theorem dX6_markOfCloth_8 : decode cX6_markOfCloth 8 = .ok (.invokevirtual 364, 3) := by decide +kernel
theorem dX6_markOfCloth_11 : decode cX6_markOfCloth 11 = .ok (.aload_n 0, 1) := by decide +kernel
theorem dX6_markOfCloth_12 : decode cX6_markOfCloth 12 = .ok (.iload_n 1, 1) := by decide +kernel
theorem dX6_markOfCloth_13 : decode cX6_markOfCloth 13 = .ok (.invokevirtual 342, 3) := by decide +kernel
theorem dX6_markOfCloth_16 : decode cX6_markOfCloth 16 = .ok (.isub, 1) := by decide +kernel
theorem dX6_markOfCloth_17 : decode cX6_markOfCloth 17 = .ok (.ireturn, 1) := by decide +kernel
theorem dX7_init_0 : decode cX7_init 0 = .ok (.aload_n 0, 1) := by decide +kernel
theorem dX7_init_1 : decode cX7_init 1 = .ok (.invokespecial 1, 3) := by decide +kernel
theorem dX7_init_4 : decode cX7_init 4 = .ok (.aload_n 0, 1) := by decide +kernel
theorem dX7_init_5 : decode cX7_init 5 = .ok (.bipush 8, 2) := by decide +kernel
theorem dX7_init_7 : decode cX7_init 7 = .ok (.newarray .int, 2) := by decide +kernel
theorem dX7_init_9 : decode cX7_init 9 = .ok (.putfield 7, 3) := by decide +kernel
theorem dX7_init_12 : decode cX7_init 12 = .ok (.aload_n 0, 1) := by decide +kernel
theorem dX7_init_13 : decode cX7_init 13 = .ok (.bipush 8, 2) := by decide +kernel
theorem dX7_init_15 : decode cX7_init 15 = .ok (.newarray .int, 2) := by decide +kernel
theorem dX7_init_17 : decode cX7_init 17 = .ok (.putfield 13, 3) := by decide +kernel
theorem dX7_init_20 : decode cX7_init 20 = .ok (.aload_n 0, 1) := by decide +kernel
theorem dX7_init_21 : decode cX7_init 21 = .ok (.sipush 320, 3) := by decide +kernel
theorem dX7_init_24 : decode cX7_init 24 = .ok (.newarray .int, 2) := by decide +kernel
theorem dX7_init_26 : decode cX7_init 26 = .ok (.putfield 16, 3) := by decide +kernel
theorem dX7_init_29 : decode cX7_init 29 = .ok (.aload_n 0, 1) := by decide +kernel
theorem dX7_init_30 : decode cX7_init 30 = .ok (.sipush 400, 3) := by decide +kernel
theorem dX7_init_33 : decode cX7_init 33 = .ok (.newarray .int, 2) := by decide +kernel
theorem dX7_init_35 : decode cX7_init 35 = .ok (.putfield 19, 3) := by decide +kernel
theorem dX7_init_38 : decode cX7_init 38 = .ok (.aload_n 0, 1) := by decide +kernel
theorem dX7_init_39 : decode cX7_init 39 = .ok (.bipush 8, 2) := by decide +kernel
theorem dX7_init_41 : decode cX7_init 41 = .ok (.newarray .int, 2) := by decide +kernel
theorem dX7_init_43 : decode cX7_init 43 = .ok (.putfield 22, 3) := by decide +kernel
theorem dX7_init_46 : decode cX7_init 46 = .ok (.aload_n 0, 1) := by decide +kernel
theorem dX7_init_47 : decode cX7_init 47 = .ok (.bipush 30, 2) := by decide +kernel
theorem dX7_init_49 : decode cX7_init 49 = .ok (.newarray .int, 2) := by decide +kernel
theorem dX7_init_51 : decode cX7_init 51 = .ok (.putfield 25, 3) := by decide +kernel
theorem dX7_init_54 : decode cX7_init 54 = .ok (.aload_n 0, 1) := by decide +kernel
theorem dX7_init_55 : decode cX7_init 55 = .ok (.bipush 102, 2) := by decide +kernel
theorem dX7_init_57 : decode cX7_init 57 = .ok (.newarray .int, 2) := by decide +kernel
theorem dX7_init_59 : decode cX7_init 59 = .ok (.putfield 28, 3) := by decide +kernel
theorem dX7_init_62 : decode cX7_init 62 = .ok (.aload_n 0, 1) := by decide +kernel
theorem dX7_init_63 : decode cX7_init 63 = .ok (.sipush 204, 3) := by decide +kernel
theorem dX7_init_66 : decode cX7_init 66 = .ok (.newarray .int, 2) := by decide +kernel
theorem dX7_init_68 : decode cX7_init 68 = .ok (.putfield 31, 3) := by decide +kernel
theorem dX7_init_71 : decode cX7_init 71 = .ok (.aload_n 0, 1) := by decide +kernel
theorem dX7_init_72 : decode cX7_init 72 = .ok (.iconst 2, 1) := by decide +kernel
theorem dX7_init_73 : decode cX7_init 73 = .ok (.newarray .boolean, 2) := by decide +kernel
theorem dX7_init_75 : decode cX7_init 75 = .ok (.putfield 34, 3) := by decide +kernel
theorem dX7_init_78 : decode cX7_init 78 = .ok (.aload_n 0, 1) := by decide +kernel
theorem dX7_init_79 : decode cX7_init 79 = .ok (.bipush 120, 2) := by decide +kernel
theorem dX7_init_81 : decode cX7_init 81 = .ok (.newarray .int, 2) := by decide +kernel
theorem dX7_init_83 : decode cX7_init 83 = .ok (.putfield 38, 3) := by decide +kernel
theorem dX7_init_86 : decode cX7_init 86 = .ok (.aload_n 0, 1) := by decide +kernel
theorem dX7_init_87 : decode cX7_init 87 = .ok (.bipush 16, 2) := by decide +kernel
theorem dX7_init_89 : decode cX7_init 89 = .ok (.newarray .int, 2) := by decide +kernel
theorem dX7_init_91 : decode cX7_init 91 = .ok (.putfield 41, 3) := by decide +kernel
theorem dX7_init_94 : decode cX7_init 94 = .ok (.aload_n 0, 1) := by decide +kernel
theorem dX7_init_95 : decode cX7_init 95 = .ok (.bipush 16, 2) := by decide +kernel
theorem dX7_init_97 : decode cX7_init 97 = .ok (.newarray .int, 2) := by decide +kernel
theorem dX7_init_99 : decode cX7_init 99 = .ok (.putfield 44, 3) := by decide +kernel
theorem dX7_init_102 : decode cX7_init 102 = .ok (.aload_n 0, 1) := by decide +kernel
theorem dX7_init_103 : decode cX7_init 103 = .ok (.sipush 289, 3) := by decide +kernel
theorem dX7_init_106 : decode cX7_init 106 = .ok (.newarray .int, 2) := by decide +kernel
theorem dX7_init_108 : decode cX7_init 108 = .ok (.putfield 47, 3) := by decide +kernel
theorem dX7_init_111 : decode cX7_init 111 = .ok (.aload_n 0, 1) := by decide +kernel
theorem dX7_init_112 : decode cX7_init 112 = .ok (.sipush 289, 3) := by decide +kernel
theorem dX7_init_115 : decode cX7_init 115 = .ok (.newarray .int, 2) := by decide +kernel
theorem dX7_init_117 : decode cX7_init 117 = .ok (.putfield 50, 3) := by decide +kernel
theorem dX7_init_120 : decode cX7_init 120 = .ok (.aload_n 0, 1) := by decide +kernel
theorem dX7_init_121 : decode cX7_init 121 = .ok (.sipush 289, 3) := by decide +kernel
theorem dX7_init_124 : decode cX7_init 124 = .ok (.newarray .int, 2) := by decide +kernel
theorem dX7_init_126 : decode cX7_init 126 = .ok (.putfield 53, 3) := by decide +kernel
theorem dX7_init_129 : decode cX7_init 129 = .ok (.aload_n 0, 1) := by decide +kernel
theorem dX7_init_130 : decode cX7_init 130 = .ok (.sipush 289, 3) := by decide +kernel
theorem dX7_init_133 : decode cX7_init 133 = .ok (.newarray .int, 2) := by decide +kernel
theorem dX7_init_135 : decode cX7_init 135 = .ok (.putfield 56, 3) := by decide +kernel
theorem dX7_init_138 : decode cX7_init 138 = .ok (.aload_n 0, 1) := by decide +kernel
theorem dX7_init_139 : decode cX7_init 139 = .ok (.bipush 7, 2) := by decide +kernel
theorem dX7_init_141 : decode cX7_init 141 = .ok (.newarray .int, 2) := by decide +kernel
theorem dX7_init_143 : decode cX7_init 143 = .ok (.putfield 59, 3) := by decide +kernel
theorem dX7_init_146 : decode cX7_init 146 = .ok (.iconst 0, 1) := by decide +kernel
theorem dX7_init_147 : decode cX7_init 147 = .ok (.istore_n 1, 1) := by decide +kernel
theorem dX7_init_148 : decode cX7_init 148 = .ok (.iload_n 1, 1) := by decide +kernel
theorem dX7_init_149 : decode cX7_init 149 = .ok (.bipush 8, 2) := by decide +kernel
theorem dX7_init_151 : decode cX7_init 151 = .ok (.if_icmp .ge 16, 3) := by decide +kernel
theorem dX7_init_154 : decode cX7_init 154 = .ok (.aload_n 0, 1) := by decide +kernel
theorem dX7_init_155 : decode cX7_init 155 = .ok (.getfield 7, 3) := by decide +kernel
theorem dX7_init_158 : decode cX7_init 158 = .ok (.iload_n 1, 1) := by decide +kernel
theorem dX7_init_159 : decode cX7_init 159 = .ok (.iconst (-1), 1) := by decide +kernel
theorem dX7_init_160 : decode cX7_init 160 = .ok (.iastore, 1) := by decide +kernel
theorem dX7_init_161 : decode cX7_init 161 = .ok (.iinc 1 1, 3) := by decide +kernel
theorem dX7_init_164 : decode cX7_init 164 = .ok (.goto (-16), 3) := by decide +kernel
theorem dX7_init_167 : decode cX7_init 167 = .ok (.return_, 1) := by decide +kernel
theorem dX7_in_0 : decode cX7_in 0 = .ok (.iload_n 0, 1) := by decide +kernel
theorem dX7_in_1 : decode cX7_in 1 = .ok (.iload_n 1, 1) := by decide +kernel
theorem dX7_in_2 : decode cX7_in 2 = .ok (.if_icmp .lt 12, 3) := by decide +kernel
theorem dX7_in_5 : decode cX7_in 5 = .ok (.iload_n 0, 1) := by decide +kernel
theorem dX7_in_6 : decode cX7_in 6 = .ok (.iload_n 2, 1) := by decide +kernel
theorem dX7_in_7 : decode cX7_in 7 = .ok (.if_icmp .gt 7, 3) := by decide +kernel
theorem dX7_in_10 : decode cX7_in 10 = .ok (.iconst 1, 1) := by decide +kernel
theorem dX7_in_11 : decode cX7_in 11 = .ok (.goto 4, 3) := by decide +kernel
theorem dX7_in_14 : decode cX7_in 14 = .ok (.iconst 0, 1) := by decide +kernel
theorem dX7_in_15 : decode cX7_in 15 = .ok (.ireturn, 1) := by decide +kernel
theorem dX7_finds_0 : decode cX7_finds 0 = .ok (.aload_n 0, 1) := by decide +kernel
theorem dX7_finds_1 : decode cX7_finds 1 = .ok (.iload_n 1, 1) := by decide +kernel
theorem dX7_finds_2 : decode cX7_finds 2 = .ok (.putfield 62, 3) := by decide +kernel
theorem dX7_finds_5 : decode cX7_finds 5 = .ok (.ldc 66, 2) := by decide +kernel
theorem dX7_finds_7 : decode cX7_finds 7 = .ok (.iload_n 1, 1) := by decide +kernel
theorem dX7_finds_8 : decode cX7_finds 8 = .ok (.isub, 1) := by decide +kernel
theorem dX7_finds_9 : decode cX7_finds 9 = .ok (.ireturn, 1) := by decide +kernel
theorem dX7_did_0 : decode cX7_did 0 = .ok (.aload_n 0, 1) := by decide +kernel
theorem dX7_did_1 : decode cX7_did 1 = .ok (.iconst 0, 1) := by decide +kernel
theorem dX7_did_2 : decode cX7_did 2 = .ok (.putfield 62, 3) := by decide +kernel
theorem dX7_did_5 : decode cX7_did 5 = .ok (.iload_n 1, 1) := by decide +kernel
theorem dX7_did_6 : decode cX7_did 6 = .ok (.ireturn, 1) := by decide +kernel
theorem dX7_isRow_0 : decode cX7_isRow 0 = .ok (.iload_n 0, 1) := by decide +kernel
theorem dX7_isRow_1 : decode cX7_isRow 1 = .ok (.iconst 0, 1) := by decide +kernel
theorem dX7_isRow_2 : decode cX7_isRow 2 = .ok (.bipush 7, 2) := by decide +kernel
theorem dX7_isRow_4 : decode cX7_isRow 4 = .ok (.invokestatic 67, 3) := by decide +kernel
theorem dX7_isRow_7 : decode cX7_isRow 7 = .ok (.ireturn, 1) := by decide +kernel
theorem dX7_isNull_0 : decode cX7_isNull 0 = .ok (.aload_n 0, 1) := by decide +kernel
theorem dX7_isNull_1 : decode cX7_isNull 1 = .ok (.getfield 7, 3) := by decide +kernel
theorem dX7_isNull_4 : decode cX7_isNull 4 = .ok (.iload_n 1, 1) := by decide +kernel
theorem dX7_isNull_5 : decode cX7_isNull 5 = .ok (.iaload, 1) := by decide +kernel
theorem dX7_isNull_6 : decode cX7_isNull 6 = .ok (.ifCond .ge 7, 3) := by decide +kernel
theorem dX7_isNull_9 : decode cX7_isNull 9 = .ok (.iconst 1, 1) := by decide +kernel
theorem dX7_isNull_10 : decode cX7_isNull 10 = .ok (.goto 4, 3) := by decide +kernel
theorem dX7_isNull_13 : decode cX7_isNull 13 = .ok (.iconst 0, 1) := by decide +kernel
theorem dX7_isNull_14 : decode cX7_isNull 14 = .ok (.ireturn, 1) := by decide +kernel
theorem dX7_row_0 : decode cX7_row 0 = .ok (.iload_n 1, 1) := by decide +kernel
theorem dX7_row_1 : decode cX7_row 1 = .ok (.invokestatic 71, 3) := by decide +kernel
theorem dX7_row_4 : decode cX7_row 4 = .ok (.ifCond .eq 18, 3) := by decide +kernel
theorem dX7_row_7 : decode cX7_row 7 = .ok (.iload_n 2, 1) := by decide +kernel
theorem dX7_row_8 : decode cX7_row 8 = .ok (.iconst 0, 1) := by decide +kernel
theorem dX7_row_9 : decode cX7_row 9 = .ok (.iconst 2, 1) := by decide +kernel
theorem dX7_row_10 : decode cX7_row 10 = .ok (.invokestatic 67, 3) := by decide +kernel
theorem dX7_row_13 : decode cX7_row 13 = .ok (.ifCond .eq 9, 3) := by decide +kernel
theorem dX7_row_16 : decode cX7_row 16 = .ok (.iload_n 3, 1) := by decide +kernel
theorem dX7_row_17 : decode cX7_row 17 = .ok (.bipush 40, 2) := by decide +kernel
theorem dX7_row_19 : decode cX7_row 19 = .ok (.if_icmp .le 6, 3) := by decide +kernel
theorem dX7_row_22 : decode cX7_row 22 = .ok (.ldc 75, 2) := by decide +kernel
theorem dX7_row_24 : decode cX7_row 24 = .ok (.ireturn, 1) := by decide +kernel
theorem dX7_row_25 : decode cX7_row 25 = .ok (.iload_n 3, 1) := by decide +kernel
theorem dX7_row_26 : decode cX7_row 26 = .ok (.ifCond .ge 9, 3) := by decide +kernel
theorem dX7_row_29 : decode cX7_row 29 = .ok (.aload_n 0, 1) := by decide +kernel
theorem dX7_row_30 : decode cX7_row 30 = .ok (.iconst 4, 1) := by decide +kernel
theorem dX7_row_31 : decode cX7_row 31 = .ok (.invokevirtual 76, 3) := by decide +kernel
theorem dX7_row_34 : decode cX7_row 34 = .ok (.ireturn, 1) := by decide +kernel
theorem dX7_row_35 : decode cX7_row 35 = .ok (.aload_n 0, 1) := by decide +kernel
theorem dX7_row_36 : decode cX7_row 36 = .ok (.getfield 7, 3) := by decide +kernel
theorem dX7_row_39 : decode cX7_row 39 = .ok (.iload_n 1, 1) := by decide +kernel
theorem dX7_row_40 : decode cX7_row 40 = .ok (.iload_n 2, 1) := by decide +kernel
theorem dX7_row_41 : decode cX7_row 41 = .ok (.iastore, 1) := by decide +kernel
theorem dX7_row_42 : decode cX7_row 42 = .ok (.aload_n 0, 1) := by decide +kernel
theorem dX7_row_43 : decode cX7_row 43 = .ok (.getfield 13, 3) := by decide +kernel
theorem dX7_row_46 : decode cX7_row 46 = .ok (.iload_n 1, 1) := by decide +kernel
theorem dX7_row_47 : decode cX7_row 47 = .ok (.iload_n 3, 1) := by decide +kernel
theorem dX7_row_48 : decode cX7_row 48 = .ok (.iastore, 1) := by decide +kernel
theorem dX7_row_49 : decode cX7_row 49 = .ok (.iconst 0, 1) := by decide +kernel
theorem dX7_row_50 : decode cX7_row 50 = .ok (.istore 4, 2) := by decide +kernel
theorem dX7_row_52 : decode cX7_row 52 = .ok (.iload 4, 2) := by decide +kernel
theorem dX7_row_54 : decode cX7_row 54 = .ok (.iload_n 3, 1) := by decide +kernel
theorem dX7_row_55 : decode cX7_row 55 = .ok (.if_icmp .ge 22, 3) := by decide +kernel
theorem dX7_row_58 : decode cX7_row 58 = .ok (.aload_n 0, 1) := by decide +kernel
theorem dX7_row_59 : decode cX7_row 59 = .ok (.getfield 16, 3) := by decide +kernel
theorem dX7_row_62 : decode cX7_row 62 = .ok (.bipush 40, 2) := by decide +kernel
theorem dX7_row_64 : decode cX7_row 64 = .ok (.iload_n 1, 1) := by decide +kernel
theorem dX7_row_65 : decode cX7_row 65 = .ok (.imul, 1) := by decide +kernel
theorem dX7_row_66 : decode cX7_row 66 = .ok (.iload 4, 2) := by decide +kernel
theorem dX7_row_68 : decode cX7_row 68 = .ok (.iadd, 1) := by decide +kernel
theorem dX7_row_69 : decode cX7_row 69 = .ok (.iconst 0, 1) := by decide +kernel
theorem dX7_row_70 : decode cX7_row 70 = .ok (.iastore, 1) := by decide +kernel
theorem dX7_row_71 : decode cX7_row 71 = .ok (.iinc 4 1, 3) := by decide +kernel
theorem dX7_row_74 : decode cX7_row 74 = .ok (.goto (-22), 3) := by decide +kernel
theorem dX7_row_77 : decode cX7_row 77 = .ok (.aload_n 0, 1) := by decide +kernel
theorem dX7_row_78 : decode cX7_row 78 = .ok (.iload_n 3, 1) := by decide +kernel
theorem dX7_row_79 : decode cX7_row 79 = .ok (.invokevirtual 80, 3) := by decide +kernel
theorem dX7_row_82 : decode cX7_row 82 = .ok (.ireturn, 1) := by decide +kernel
theorem dX7_set_0 : decode cX7_set 0 = .ok (.iload_n 1, 1) := by decide +kernel
theorem dX7_set_1 : decode cX7_set 1 = .ok (.invokestatic 71, 3) := by decide +kernel
theorem dX7_set_4 : decode cX7_set 4 = .ok (.ifCond .ne 6, 3) := by decide +kernel
theorem dX7_set_7 : decode cX7_set 7 = .ok (.ldc 75, 2) := by decide +kernel
theorem dX7_set_9 : decode cX7_set 9 = .ok (.ireturn, 1) := by decide +kernel
theorem dX7_set_10 : decode cX7_set 10 = .ok (.aload_n 0, 1) := by decide +kernel
theorem dX7_set_11 : decode cX7_set 11 = .ok (.iload_n 1, 1) := by decide +kernel
theorem dX7_set_12 : decode cX7_set 12 = .ok (.invokevirtual 83, 3) := by decide +kernel
theorem dX7_set_15 : decode cX7_set 15 = .ok (.ifCond .eq 9, 3) := by decide +kernel
theorem dX7_set_18 : decode cX7_set 18 = .ok (.aload_n 0, 1) := by decide +kernel
theorem dX7_set_19 : decode cX7_set 19 = .ok (.iconst 1, 1) := by decide +kernel
theorem dX7_set_20 : decode cX7_set 20 = .ok (.invokevirtual 76, 3) := by decide +kernel
theorem dX7_set_23 : decode cX7_set 23 = .ok (.ireturn, 1) := by decide +kernel
theorem dX7_set_24 : decode cX7_set 24 = .ok (.iload_n 2, 1) := by decide +kernel
theorem dX7_set_25 : decode cX7_set 25 = .ok (.iconst 0, 1) := by decide +kernel
theorem dX7_set_26 : decode cX7_set 26 = .ok (.aload_n 0, 1) := by decide +kernel
theorem dX7_set_27 : decode cX7_set 27 = .ok (.getfield 13, 3) := by decide +kernel
theorem dX7_set_30 : decode cX7_set 30 = .ok (.iload_n 1, 1) := by decide +kernel
theorem dX7_set_31 : decode cX7_set 31 = .ok (.iaload, 1) := by decide +kernel
theorem dX7_set_32 : decode cX7_set 32 = .ok (.iconst 1, 1) := by decide +kernel
theorem dX7_set_33 : decode cX7_set 33 = .ok (.isub, 1) := by decide +kernel
theorem dX7_set_34 : decode cX7_set 34 = .ok (.invokestatic 67, 3) := by decide +kernel
theorem dX7_set_37 : decode cX7_set 37 = .ok (.ifCond .ne 9, 3) := by decide +kernel
theorem dX7_set_40 : decode cX7_set 40 = .ok (.aload_n 0, 1) := by decide +kernel
theorem dX7_set_41 : decode cX7_set 41 = .ok (.iconst 2, 1) := by decide +kernel
theorem dX7_set_42 : decode cX7_set 42 = .ok (.invokevirtual 76, 3) := by decide +kernel
theorem dX7_set_45 : decode cX7_set 45 = .ok (.ireturn, 1) := by decide +kernel
theorem dX7_set_46 : decode cX7_set 46 = .ok (.aload_n 0, 1) := by decide +kernel
theorem dX7_set_47 : decode cX7_set 47 = .ok (.getfield 16, 3) := by decide +kernel
theorem dX7_set_50 : decode cX7_set 50 = .ok (.bipush 40, 2) := by decide +kernel
theorem dX7_set_52 : decode cX7_set 52 = .ok (.iload_n 1, 1) := by decide +kernel
theorem dX7_set_53 : decode cX7_set 53 = .ok (.imul, 1) := by decide +kernel
theorem dX7_set_54 : decode cX7_set 54 = .ok (.iload_n 2, 1) := by decide +kernel
theorem dX7_set_55 : decode cX7_set 55 = .ok (.iadd, 1) := by decide +kernel
theorem dX7_set_56 : decode cX7_set 56 = .ok (.aload_n 0, 1) := by decide +kernel
theorem dX7_set_57 : decode cX7_set 57 = .ok (.getfield 7, 3) := by decide +kernel
theorem dX7_set_60 : decode cX7_set 60 = .ok (.iload_n 1, 1) := by decide +kernel
theorem dX7_set_61 : decode cX7_set 61 = .ok (.iaload, 1) := by decide +kernel
theorem dX7_set_62 : decode cX7_set 62 = .ok (.ifCond .ne 8, 3) := by decide +kernel
theorem dX7_set_65 : decode cX7_set 65 = .ok (.iload_n 3, 1) := by decide +kernel
theorem dX7_set_66 : decode cX7_set 66 = .ok (.i2b, 1) := by decide +kernel
theorem dX7_set_67 : decode cX7_set 67 = .ok (.goto 19, 3) := by decide +kernel
theorem dX7_set_70 : decode cX7_set 70 = .ok (.aload_n 0, 1) := by decide +kernel
theorem dX7_set_71 : decode cX7_set 71 = .ok (.getfield 7, 3) := by decide +kernel
theorem dX7_set_74 : decode cX7_set 74 = .ok (.iload_n 1, 1) := by decide +kernel
theorem dX7_set_75 : decode cX7_set 75 = .ok (.iaload, 1) := by decide +kernel
theorem dX7_set_76 : decode cX7_set 76 = .ok (.iconst 1, 1) := by decide +kernel
theorem dX7_set_77 : decode cX7_set 77 = .ok (.if_icmp .ne 8, 3) := by decide +kernel
theorem dX7_set_80 : decode cX7_set 80 = .ok (.iload_n 3, 1) := by decide +kernel
theorem dX7_set_81 : decode cX7_set 81 = .ok (.i2s, 1) := by decide +kernel
theorem dX7_set_82 : decode cX7_set 82 = .ok (.goto 4, 3) := by decide +kernel
theorem dX7_set_85 : decode cX7_set 85 = .ok (.iload_n 3, 1) := by decide +kernel
theorem dX7_set_86 : decode cX7_set 86 = .ok (.iastore, 1) := by decide +kernel
theorem dX7_set_87 : decode cX7_set 87 = .ok (.aload_n 0, 1) := by decide +kernel
theorem dX7_set_88 : decode cX7_set 88 = .ok (.aload_n 0, 1) := by decide +kernel
theorem dX7_set_89 : decode cX7_set 89 = .ok (.getfield 16, 3) := by decide +kernel
theorem dX7_set_92 : decode cX7_set 92 = .ok (.bipush 40, 2) := by decide +kernel
theorem dX7_set_94 : decode cX7_set 94 = .ok (.iload_n 1, 1) := by decide +kernel
theorem dX7_set_95 : decode cX7_set 95 = .ok (.imul, 1) := by decide +kernel
theorem dX7_set_96 : decode cX7_set 96 = .ok (.iload_n 2, 1) := by decide +kernel
theorem dX7_set_97 : decode cX7_set 97 = .ok (.iadd, 1) := by decide +kernel
theorem dX7_set_98 : decode cX7_set 98 = .ok (.iaload, 1) := by decide +kernel
theorem dX7_set_99 : decode cX7_set 99 = .ok (.invokevirtual 80, 3) := by decide +kernel
theorem dX7_set_102 : decode cX7_set 102 = .ok (.ireturn, 1) := by decide +kernel
theorem dX7_copy_0 : decode cX7_copy 0 = .ok (.iload_n 1, 1) := by decide +kernel
theorem dX7_copy_1 : decode cX7_copy 1 = .ok (.invokestatic 71, 3) := by decide +kernel
theorem dX7_copy_4 : decode cX7_copy 4 = .ok (.ifCond .eq 10, 3) := by decide +kernel
theorem dX7_copy_7 : decode cX7_copy 7 = .ok (.iload_n 3, 1) := by decide +kernel
theorem dX7_copy_8 : decode cX7_copy 8 = .ok (.invokestatic 71, 3) := by decide +kernel
theorem dX7_copy_11 : decode cX7_copy 11 = .ok (.ifCond .ne 6, 3) := by decide +kernel
theorem dX7_copy_14 : decode cX7_copy 14 = .ok (.ldc 75, 2) := by decide +kernel
theorem dX7_copy_16 : decode cX7_copy 16 = .ok (.ireturn, 1) := by decide +kernel
theorem dX7_copy_17 : decode cX7_copy 17 = .ok (.aload_n 0, 1) := by decide +kernel
theorem dX7_copy_18 : decode cX7_copy 18 = .ok (.iload_n 1, 1) := by decide +kernel
theorem dX7_copy_19 : decode cX7_copy 19 = .ok (.invokevirtual 83, 3) := by decide +kernel
theorem dX7_copy_22 : decode cX7_copy 22 = .ok (.ifCond .ne 11, 3) := by decide +kernel
theorem dX7_copy_25 : decode cX7_copy 25 = .ok (.aload_n 0, 1) := by decide +kernel
theorem dX7_copy_26 : decode cX7_copy 26 = .ok (.iload_n 3, 1) := by decide +kernel
theorem dX7_copy_27 : decode cX7_copy 27 = .ok (.invokevirtual 83, 3) := by decide +kernel
theorem dX7_copy_30 : decode cX7_copy 30 = .ok (.ifCond .eq 9, 3) := by decide +kernel
theorem dX7_copy_33 : decode cX7_copy 33 = .ok (.aload_n 0, 1) := by decide +kernel
theorem dX7_copy_34 : decode cX7_copy 34 = .ok (.iconst 1, 1) := by decide +kernel
theorem dX7_copy_35 : decode cX7_copy 35 = .ok (.invokevirtual 76, 3) := by decide +kernel
theorem dX7_copy_38 : decode cX7_copy 38 = .ok (.ireturn, 1) := by decide +kernel
theorem dX7_copy_39 : decode cX7_copy 39 = .ok (.aload_n 0, 1) := by decide +kernel
theorem dX7_copy_40 : decode cX7_copy 40 = .ok (.getfield 7, 3) := by decide +kernel
theorem dX7_copy_43 : decode cX7_copy 43 = .ok (.iload_n 1, 1) := by decide +kernel
theorem dX7_copy_44 : decode cX7_copy 44 = .ok (.iaload, 1) := by decide +kernel
theorem dX7_copy_45 : decode cX7_copy 45 = .ok (.aload_n 0, 1) := by decide +kernel
theorem dX7_copy_46 : decode cX7_copy 46 = .ok (.getfield 7, 3) := by decide +kernel
theorem dX7_copy_49 : decode cX7_copy 49 = .ok (.iload_n 3, 1) := by decide +kernel
theorem dX7_copy_50 : decode cX7_copy 50 = .ok (.iaload, 1) := by decide +kernel
theorem dX7_copy_51 : decode cX7_copy 51 = .ok (.if_icmp .eq 9, 3) := by decide +kernel
theorem dX7_copy_54 : decode cX7_copy 54 = .ok (.aload_n 0, 1) := by decide +kernel
theorem dX7_copy_55 : decode cX7_copy 55 = .ok (.iconst 5, 1) := by decide +kernel
theorem dX7_copy_56 : decode cX7_copy 56 = .ok (.invokevirtual 76, 3) := by decide +kernel
theorem dX7_copy_59 : decode cX7_copy 59 = .ok (.ireturn, 1) := by decide +kernel
theorem dX7_copy_60 : decode cX7_copy 60 = .ok (.iload_n 2, 1) := by decide +kernel
theorem dX7_copy_61 : decode cX7_copy 61 = .ok (.ifCond .lt 40, 3) := by decide +kernel
theorem dX7_copy_64 : decode cX7_copy 64 = .ok (.iload 4, 2) := by decide +kernel
theorem dX7_copy_66 : decode cX7_copy 66 = .ok (.ifCond .lt 35, 3) := by decide +kernel
theorem dX7_copy_69 : decode cX7_copy 69 = .ok (.iload 5, 2) := by decide +kernel
theorem dX7_copy_71 : decode cX7_copy 71 = .ok (.ifCond .lt 30, 3) := by decide +kernel
theorem dX7_copy_74 : decode cX7_copy 74 = .ok (.iload 5, 2) := by decide +kernel
theorem dX7_copy_76 : decode cX7_copy 76 = .ok (.aload_n 0, 1) := by decide +kernel
theorem dX7_copy_77 : decode cX7_copy 77 = .ok (.getfield 13, 3) := by decide +kernel
theorem dX7_copy_80 : decode cX7_copy 80 = .ok (.iload_n 1, 1) := by decide +kernel
theorem dX7_copy_81 : decode cX7_copy 81 = .ok (.iaload, 1) := by decide +kernel
theorem dX7_copy_82 : decode cX7_copy 82 = .ok (.iload_n 2, 1) := by decide +kernel
theorem dX7_copy_83 : decode cX7_copy 83 = .ok (.isub, 1) := by decide +kernel
theorem dX7_copy_84 : decode cX7_copy 84 = .ok (.if_icmp .gt 17, 3) := by decide +kernel
theorem dX7_copy_87 : decode cX7_copy 87 = .ok (.iload 5, 2) := by decide +kernel
theorem dX7_copy_89 : decode cX7_copy 89 = .ok (.aload_n 0, 1) := by decide +kernel
theorem dX7_copy_90 : decode cX7_copy 90 = .ok (.getfield 13, 3) := by decide +kernel
theorem dX7_copy_93 : decode cX7_copy 93 = .ok (.iload_n 3, 1) := by decide +kernel
theorem dX7_copy_94 : decode cX7_copy 94 = .ok (.iaload, 1) := by decide +kernel
theorem dX7_copy_95 : decode cX7_copy 95 = .ok (.iload 4, 2) := by decide +kernel
theorem dX7_copy_97 : decode cX7_copy 97 = .ok (.isub, 1) := by decide +kernel
theorem dX7_copy_98 : decode cX7_copy 98 = .ok (.if_icmp .le 9, 3) := by decide +kernel
theorem dX7_copy_101 : decode cX7_copy 101 = .ok (.aload_n 0, 1) := by decide +kernel
theorem dX7_copy_102 : decode cX7_copy 102 = .ok (.iconst 2, 1) := by decide +kernel
theorem dX7_copy_103 : decode cX7_copy 103 = .ok (.invokevirtual 76, 3) := by decide +kernel
theorem dX7_copy_106 : decode cX7_copy 106 = .ok (.ireturn, 1) := by decide +kernel
theorem dX7_copy_107 : decode cX7_copy 107 = .ok (.bipush 40, 2) := by decide +kernel
theorem dX7_copy_109 : decode cX7_copy 109 = .ok (.iload_n 1, 1) := by decide +kernel
theorem dX7_copy_110 : decode cX7_copy 110 = .ok (.imul, 1) := by decide +kernel
theorem dX7_copy_111 : decode cX7_copy 111 = .ok (.iload_n 2, 1) := by decide +kernel
theorem dX7_copy_112 : decode cX7_copy 112 = .ok (.iadd, 1) := by decide +kernel
theorem dX7_copy_113 : decode cX7_copy 113 = .ok (.bipush 40, 2) := by decide +kernel
theorem dX7_copy_115 : decode cX7_copy 115 = .ok (.iload_n 3, 1) := by decide +kernel
theorem dX7_copy_116 : decode cX7_copy 116 = .ok (.imul, 1) := by decide +kernel
theorem dX7_copy_117 : decode cX7_copy 117 = .ok (.iload 4, 2) := by decide +kernel
theorem dX7_copy_119 : decode cX7_copy 119 = .ok (.iadd, 1) := by decide +kernel
theorem dX7_copy_120 : decode cX7_copy 120 = .ok (.if_icmp .ge 52, 3) := by decide +kernel
theorem dX7_copy_123 : decode cX7_copy 123 = .ok (.iload 5, 2) := by decide +kernel
theorem dX7_copy_125 : decode cX7_copy 125 = .ok (.iconst 1, 1) := by decide +kernel
theorem dX7_copy_126 : decode cX7_copy 126 = .ok (.isub, 1) := by decide +kernel
theorem dX7_copy_127 : decode cX7_copy 127 = .ok (.istore 6, 2) := by decide +kernel
theorem dX7_copy_129 : decode cX7_copy 129 = .ok (.iload 6, 2) := by decide +kernel
theorem dX7_copy_131 : decode cX7_copy 131 = .ok (.ifCond .lt 38, 3) := by decide +kernel
theorem dX7_copy_134 : decode cX7_copy 134 = .ok (.aload_n 0, 1) := by decide +kernel
theorem dX7_copy_135 : decode cX7_copy 135 = .ok (.getfield 16, 3) := by decide +kernel
theorem dX7_copy_138 : decode cX7_copy 138 = .ok (.bipush 40, 2) := by decide +kernel
theorem dX7_copy_140 : decode cX7_copy 140 = .ok (.iload_n 3, 1) := by decide +kernel
theorem dX7_copy_141 : decode cX7_copy 141 = .ok (.imul, 1) := by decide +kernel
theorem dX7_copy_142 : decode cX7_copy 142 = .ok (.iload 4, 2) := by decide +kernel
theorem dX7_copy_144 : decode cX7_copy 144 = .ok (.iadd, 1) := by decide +kernel
theorem dX7_copy_145 : decode cX7_copy 145 = .ok (.iload 6, 2) := by decide +kernel
theorem dX7_copy_147 : decode cX7_copy 147 = .ok (.iadd, 1) := by decide +kernel
theorem dX7_copy_148 : decode cX7_copy 148 = .ok (.aload_n 0, 1) := by decide +kernel
theorem dX7_copy_149 : decode cX7_copy 149 = .ok (.getfield 16, 3) := by decide +kernel
theorem dX7_copy_152 : decode cX7_copy 152 = .ok (.bipush 40, 2) := by decide +kernel
theorem dX7_copy_154 : decode cX7_copy 154 = .ok (.iload_n 1, 1) := by decide +kernel
theorem dX7_copy_155 : decode cX7_copy 155 = .ok (.imul, 1) := by decide +kernel
theorem dX7_copy_156 : decode cX7_copy 156 = .ok (.iload_n 2, 1) := by decide +kernel
theorem dX7_copy_157 : decode cX7_copy 157 = .ok (.iadd, 1) := by decide +kernel
theorem dX7_copy_158 : decode cX7_copy 158 = .ok (.iload 6, 2) := by decide +kernel
theorem dX7_copy_160 : decode cX7_copy 160 = .ok (.iadd, 1) := by decide +kernel
theorem dX7_copy_161 : decode cX7_copy 161 = .ok (.iaload, 1) := by decide +kernel
theorem dX7_copy_162 : decode cX7_copy 162 = .ok (.iastore, 1) := by decide +kernel
theorem dX7_copy_163 : decode cX7_copy 163 = .ok (.iinc 6 (-1), 3) := by decide +kernel
theorem dX7_copy_166 : decode cX7_copy 166 = .ok (.goto (-37), 3) := by decide +kernel
theorem dX7_copy_169 : decode cX7_copy 169 = .ok (.goto 48, 3) := by decide +kernel
theorem dX7_copy_172 : decode cX7_copy 172 = .ok (.iconst 0, 1) := by decide +kernel
theorem dX7_copy_173 : decode cX7_copy 173 = .ok (.istore 6, 2) := by decide +kernel
theorem dX7_copy_175 : decode cX7_copy 175 = .ok (.iload 6, 2) := by decide +kernel
theorem dX7_copy_177 : decode cX7_copy 177 = .ok (.iload 5, 2) := by decide +kernel
theorem dX7_copy_179 : decode cX7_copy 179 = .ok (.if_icmp .ge 38, 3) := by decide +kernel
theorem dX7_copy_182 : decode cX7_copy 182 = .ok (.aload_n 0, 1) := by decide +kernel
theorem dX7_copy_183 : decode cX7_copy 183 = .ok (.getfield 16, 3) := by decide +kernel
theorem dX7_copy_186 : decode cX7_copy 186 = .ok (.bipush 40, 2) := by decide +kernel
theorem dX7_copy_188 : decode cX7_copy 188 = .ok (.iload_n 3, 1) := by decide +kernel
theorem dX7_copy_189 : decode cX7_copy 189 = .ok (.imul, 1) := by decide +kernel
theorem dX7_copy_190 : decode cX7_copy 190 = .ok (.iload 4, 2) := by decide +kernel
theorem dX7_copy_192 : decode cX7_copy 192 = .ok (.iadd, 1) := by decide +kernel
theorem dX7_copy_193 : decode cX7_copy 193 = .ok (.iload 6, 2) := by decide +kernel
theorem dX7_copy_195 : decode cX7_copy 195 = .ok (.iadd, 1) := by decide +kernel
theorem dX7_copy_196 : decode cX7_copy 196 = .ok (.aload_n 0, 1) := by decide +kernel
theorem dX7_copy_197 : decode cX7_copy 197 = .ok (.getfield 16, 3) := by decide +kernel
theorem dX7_copy_200 : decode cX7_copy 200 = .ok (.bipush 40, 2) := by decide +kernel
theorem dX7_copy_202 : decode cX7_copy 202 = .ok (.iload_n 1, 1) := by decide +kernel
theorem dX7_copy_203 : decode cX7_copy 203 = .ok (.imul, 1) := by decide +kernel
theorem dX7_copy_204 : decode cX7_copy 204 = .ok (.iload_n 2, 1) := by decide +kernel
theorem dX7_copy_205 : decode cX7_copy 205 = .ok (.iadd, 1) := by decide +kernel
theorem dX7_copy_206 : decode cX7_copy 206 = .ok (.iload 6, 2) := by decide +kernel
theorem dX7_copy_208 : decode cX7_copy 208 = .ok (.iadd, 1) := by decide +kernel
theorem dX7_copy_209 : decode cX7_copy 209 = .ok (.iaload, 1) := by decide +kernel
theorem dX7_copy_210 : decode cX7_copy 210 = .ok (.iastore, 1) := by decide +kernel
theorem dX7_copy_211 : decode cX7_copy 211 = .ok (.iinc 6 1, 3) := by decide +kernel
theorem dX7_copy_214 : decode cX7_copy 214 = .ok (.goto (-39), 3) := by decide +kernel
theorem dX7_copy_217 : decode cX7_copy 217 = .ok (.aload_n 0, 1) := by decide +kernel
theorem dX7_copy_218 : decode cX7_copy 218 = .ok (.iload 5, 2) := by decide +kernel
theorem dX7_copy_220 : decode cX7_copy 220 = .ok (.invokevirtual 80, 3) := by decide +kernel
theorem dX7_copy_223 : decode cX7_copy 223 = .ok (.ireturn, 1) := by decide +kernel
theorem dX7_drop_0 : decode cX7_drop 0 = .ok (.iload_n 1, 1) := by decide +kernel
theorem dX7_drop_1 : decode cX7_drop 1 = .ok (.invokestatic 71, 3) := by decide +kernel
theorem dX7_drop_4 : decode cX7_drop 4 = .ok (.ifCond .ne 6, 3) := by decide +kernel
theorem dX7_drop_7 : decode cX7_drop 7 = .ok (.ldc 75, 2) := by decide +kernel
theorem dX7_drop_9 : decode cX7_drop 9 = .ok (.ireturn, 1) := by decide +kernel
theorem dX7_drop_10 : decode cX7_drop 10 = .ok (.aload_n 0, 1) := by decide +kernel
theorem dX7_drop_11 : decode cX7_drop 11 = .ok (.iload_n 1, 1) := by decide +kernel
theorem dX7_drop_12 : decode cX7_drop 12 = .ok (.invokevirtual 83, 3) := by decide +kernel
theorem dX7_drop_15 : decode cX7_drop 15 = .ok (.ifCond .eq 9, 3) := by decide +kernel
theorem dX7_drop_18 : decode cX7_drop 18 = .ok (.aload_n 0, 1) := by decide +kernel
theorem dX7_drop_19 : decode cX7_drop 19 = .ok (.iconst 1, 1) := by decide +kernel
theorem dX7_drop_20 : decode cX7_drop 20 = .ok (.invokevirtual 76, 3) := by decide +kernel
theorem dX7_drop_23 : decode cX7_drop 23 = .ok (.ireturn, 1) := by decide +kernel
theorem dX7_drop_24 : decode cX7_drop 24 = .ok (.aload_n 0, 1) := by decide +kernel
theorem dX7_drop_25 : decode cX7_drop 25 = .ok (.getfield 7, 3) := by decide +kernel
theorem dX7_drop_28 : decode cX7_drop 28 = .ok (.iload_n 1, 1) := by decide +kernel
theorem dX7_drop_29 : decode cX7_drop 29 = .ok (.iconst (-1), 1) := by decide +kernel
theorem dX7_drop_30 : decode cX7_drop 30 = .ok (.iastore, 1) := by decide +kernel
theorem dX7_drop_31 : decode cX7_drop 31 = .ok (.aload_n 0, 1) := by decide +kernel
theorem dX7_drop_32 : decode cX7_drop 32 = .ok (.aload_n 0, 1) := by decide +kernel
theorem dX7_drop_33 : decode cX7_drop 33 = .ok (.getfield 13, 3) := by decide +kernel
theorem dX7_drop_36 : decode cX7_drop 36 = .ok (.iload_n 1, 1) := by decide +kernel
theorem dX7_drop_37 : decode cX7_drop 37 = .ok (.iaload, 1) := by decide +kernel
theorem dX7_drop_38 : decode cX7_drop 38 = .ok (.invokevirtual 80, 3) := by decide +kernel
theorem dX7_drop_41 : decode cX7_drop 41 = .ok (.ireturn, 1) := by decide +kernel
theorem dX7_whyNot_0 : decode cX7_whyNot 0 = .ok (.aload_n 0, 1) := by decide +kernel
theorem dX7_whyNot_1 : decode cX7_whyNot 1 = .ok (.iload_n 1, 1) := by decide +kernel
theorem dX7_whyNot_2 : decode cX7_whyNot 2 = .ok (.invokevirtual 83, 3) := by decide +kernel
theorem dX7_whyNot_5 : decode cX7_whyNot 5 = .ok (.ifCond .eq 7, 3) := by decide +kernel
theorem dX7_whyNot_8 : decode cX7_whyNot 8 = .ok (.iconst 1, 1) := by decide +kernel
theorem dX7_whyNot_9 : decode cX7_whyNot 9 = .ok (.goto 24, 3) := by decide +kernel
theorem dX7_whyNot_12 : decode cX7_whyNot 12 = .ok (.iload_n 2, 1) := by decide +kernel
theorem dX7_whyNot_13 : decode cX7_whyNot 13 = .ok (.ifCond .lt 15, 3) := by decide +kernel
theorem dX7_whyNot_16 : decode cX7_whyNot 16 = .ok (.iload_n 3, 1) := by decide +kernel
theorem dX7_whyNot_17 : decode cX7_whyNot 17 = .ok (.aload_n 0, 1) := by decide +kernel
theorem dX7_whyNot_18 : decode cX7_whyNot 18 = .ok (.getfield 13, 3) := by decide +kernel
theorem dX7_whyNot_21 : decode cX7_whyNot 21 = .ok (.iload_n 1, 1) := by decide +kernel
theorem dX7_whyNot_22 : decode cX7_whyNot 22 = .ok (.iaload, 1) := by decide +kernel
theorem dX7_whyNot_23 : decode cX7_whyNot 23 = .ok (.iload_n 2, 1) := by decide +kernel
theorem dX7_whyNot_24 : decode cX7_whyNot 24 = .ok (.isub, 1) := by decide +kernel
theorem dX7_whyNot_25 : decode cX7_whyNot 25 = .ok (.if_icmp .le 7, 3) := by decide +kernel
theorem dX7_whyNot_28 : decode cX7_whyNot 28 = .ok (.iconst 2, 1) := by decide +kernel
theorem dX7_whyNot_29 : decode cX7_whyNot 29 = .ok (.goto 4, 3) := by decide +kernel
theorem dX7_whyNot_32 : decode cX7_whyNot 32 = .ok (.iconst 0, 1) := by decide +kernel
theorem dX7_whyNot_33 : decode cX7_whyNot 33 = .ok (.ireturn, 1) := by decide +kernel
theorem dX7_feed_0 : decode cX7_feed 0 = .ok (.iload_n 3, 1) := by decide +kernel
theorem dX7_feed_1 : decode cX7_feed 1 = .ok (.iconst 1, 1) := by decide +kernel
theorem dX7_feed_2 : decode cX7_feed 2 = .ok (.bipush 8, 2) := by decide +kernel
theorem dX7_feed_4 : decode cX7_feed 4 = .ok (.invokestatic 67, 3) := by decide +kernel
theorem dX7_feed_7 : decode cX7_feed 7 = .ok (.ifCond .ne 6, 3) := by decide +kernel
theorem dX7_feed_10 : decode cX7_feed 10 = .ok (.ldc 75, 2) := by decide +kernel
theorem dX7_feed_12 : decode cX7_feed 12 = .ok (.ireturn, 1) := by decide +kernel
theorem dX7_feed_13 : decode cX7_feed 13 = .ok (.aload_n 0, 1) := by decide +kernel
theorem dX7_feed_14 : decode cX7_feed 14 = .ok (.getfield 86, 3) := by decide +kernel
theorem dX7_feed_17 : decode cX7_feed 17 = .ok (.iload_n 3, 1) := by decide +kernel
theorem dX7_feed_18 : decode cX7_feed 18 = .ok (.iadd, 1) := by decide +kernel
theorem dX7_feed_19 : decode cX7_feed 19 = .ok (.sipush 400, 3) := by decide +kernel
theorem dX7_feed_22 : decode cX7_feed 22 = .ok (.if_icmp .le 6, 3) := by decide +kernel
theorem dX7_feed_25 : decode cX7_feed 25 = .ok (.ldc 89, 2) := by decide +kernel
theorem dX7_feed_27 : decode cX7_feed 27 = .ok (.ireturn, 1) := by decide +kernel
theorem dX7_feed_28 : decode cX7_feed 28 = .ok (.iconst 0, 1) := by decide +kernel
theorem dX7_feed_29 : decode cX7_feed 29 = .ok (.istore 4, 2) := by decide +kernel
theorem dX7_feed_31 : decode cX7_feed 31 = .ok (.iload 4, 2) := by decide +kernel
theorem dX7_feed_33 : decode cX7_feed 33 = .ok (.iload_n 3, 1) := by decide +kernel
theorem dX7_feed_34 : decode cX7_feed 34 = .ok (.if_icmp .ge 37, 3) := by decide +kernel
theorem dX7_feed_37 : decode cX7_feed 37 = .ok (.aload_n 0, 1) := by decide +kernel
theorem dX7_feed_38 : decode cX7_feed 38 = .ok (.getfield 19, 3) := by decide +kernel
theorem dX7_feed_41 : decode cX7_feed 41 = .ok (.aload_n 0, 1) := by decide +kernel
theorem dX7_feed_42 : decode cX7_feed 42 = .ok (.getfield 86, 3) := by decide +kernel
theorem dX7_feed_45 : decode cX7_feed 45 = .ok (.iload 4, 2) := by decide +kernel
theorem dX7_feed_47 : decode cX7_feed 47 = .ok (.iadd, 1) := by decide +kernel
theorem dX7_feed_48 : decode cX7_feed 48 = .ok (.lload_n 1, 1) := by decide +kernel
theorem dX7_feed_49 : decode cX7_feed 49 = .ok (.bipush 8, 2) := by decide +kernel
theorem dX7_feed_51 : decode cX7_feed 51 = .ok (.iload_n 3, 1) := by decide +kernel
theorem dX7_feed_52 : decode cX7_feed 52 = .ok (.iconst 1, 1) := by decide +kernel
theorem dX7_feed_53 : decode cX7_feed 53 = .ok (.isub, 1) := by decide +kernel
theorem dX7_feed_54 : decode cX7_feed 54 = .ok (.iload 4, 2) := by decide +kernel
theorem dX7_feed_56 : decode cX7_feed 56 = .ok (.isub, 1) := by decide +kernel
theorem dX7_feed_57 : decode cX7_feed 57 = .ok (.imul, 1) := by decide +kernel
theorem dX7_feed_58 : decode cX7_feed 58 = .ok (.lshr, 1) := by decide +kernel
theorem dX7_feed_59 : decode cX7_feed 59 = .ok (.ldc2_w 90, 3) := by decide +kernel
theorem dX7_feed_62 : decode cX7_feed 62 = .ok (.land, 1) := by decide +kernel
theorem dX7_feed_63 : decode cX7_feed 63 = .ok (.l2i, 1) := by decide +kernel
theorem dX7_feed_64 : decode cX7_feed 64 = .ok (.iastore, 1) := by decide +kernel
theorem dX7_feed_65 : decode cX7_feed 65 = .ok (.iinc 4 1, 3) := by decide +kernel
theorem dX7_feed_68 : decode cX7_feed 68 = .ok (.goto (-37), 3) := by decide +kernel
theorem dX7_feed_71 : decode cX7_feed 71 = .ok (.aload_n 0, 1) := by decide +kernel
theorem dX7_feed_72 : decode cX7_feed 72 = .ok (.dup, 1) := by decide +kernel
theorem dX7_feed_73 : decode cX7_feed 73 = .ok (.getfield 86, 3) := by decide +kernel
theorem dX7_feed_76 : decode cX7_feed 76 = .ok (.iload_n 3, 1) := by decide +kernel
theorem dX7_feed_77 : decode cX7_feed 77 = .ok (.iadd, 1) := by decide +kernel
theorem dX7_feed_78 : decode cX7_feed 78 = .ok (.putfield 86, 3) := by decide +kernel
theorem dX7_feed_81 : decode cX7_feed 81 = .ok (.aload_n 0, 1) := by decide +kernel
theorem dX7_feed_82 : decode cX7_feed 82 = .ok (.getfield 86, 3) := by decide +kernel
theorem dX7_feed_85 : decode cX7_feed 85 = .ok (.ireturn, 1) := by decide +kernel
theorem dX7_nextToken_0 : decode cX7_nextToken 0 = .ok (.aload_n 0, 1) := by decide +kernel
theorem dX7_nextToken_1 : decode cX7_nextToken 1 = .ok (.getfield 92, 3) := by decide +kernel
theorem dX7_nextToken_4 : decode cX7_nextToken 4 = .ok (.aload_n 0, 1) := by decide +kernel
theorem dX7_nextToken_5 : decode cX7_nextToken 5 = .ok (.getfield 86, 3) := by decide +kernel
theorem dX7_nextToken_8 : decode cX7_nextToken 8 = .ok (.if_icmp .ge 44, 3) := by decide +kernel
theorem dX7_nextToken_11 : decode cX7_nextToken 11 = .ok (.aload_n 0, 1) := by decide +kernel
theorem dX7_nextToken_12 : decode cX7_nextToken 12 = .ok (.getfield 19, 3) := by decide +kernel
theorem dX7_nextToken_15 : decode cX7_nextToken 15 = .ok (.aload_n 0, 1) := by decide +kernel
theorem dX7_nextToken_16 : decode cX7_nextToken 16 = .ok (.getfield 92, 3) := by decide +kernel
theorem dX7_nextToken_19 : decode cX7_nextToken 19 = .ok (.iaload, 1) := by decide +kernel
theorem dX7_nextToken_20 : decode cX7_nextToken 20 = .ok (.bipush 32, 2) := by decide +kernel
theorem dX7_nextToken_22 : decode cX7_nextToken 22 = .ok (.if_icmp .eq 17, 3) := by decide +kernel
theorem dX7_nextToken_25 : decode cX7_nextToken 25 = .ok (.aload_n 0, 1) := by decide +kernel
theorem dX7_nextToken_26 : decode cX7_nextToken 26 = .ok (.getfield 19, 3) := by decide +kernel
theorem dX7_nextToken_29 : decode cX7_nextToken 29 = .ok (.aload_n 0, 1) := by decide +kernel
theorem dX7_nextToken_30 : decode cX7_nextToken 30 = .ok (.getfield 92, 3) := by decide +kernel
theorem dX7_nextToken_33 : decode cX7_nextToken 33 = .ok (.iaload, 1) := by decide +kernel
theorem dX7_nextToken_34 : decode cX7_nextToken 34 = .ok (.bipush 10, 2) := by decide +kernel
theorem dX7_nextToken_36 : decode cX7_nextToken 36 = .ok (.if_icmp .ne 16, 3) := by decide +kernel
theorem dX7_nextToken_39 : decode cX7_nextToken 39 = .ok (.aload_n 0, 1) := by decide +kernel
theorem dX7_nextToken_40 : decode cX7_nextToken 40 = .ok (.dup, 1) := by decide +kernel
theorem dX7_nextToken_41 : decode cX7_nextToken 41 = .ok (.getfield 92, 3) := by decide +kernel
theorem dX7_nextToken_44 : decode cX7_nextToken 44 = .ok (.iconst 1, 1) := by decide +kernel
theorem dX7_nextToken_45 : decode cX7_nextToken 45 = .ok (.iadd, 1) := by decide +kernel
theorem dX7_nextToken_46 : decode cX7_nextToken 46 = .ok (.putfield 92, 3) := by decide +kernel
theorem dX7_nextToken_49 : decode cX7_nextToken 49 = .ok (.goto (-49), 3) := by decide +kernel
theorem dX7_nextToken_52 : decode cX7_nextToken 52 = .ok (.aload_n 0, 1) := by decide +kernel
theorem dX7_nextToken_53 : decode cX7_nextToken 53 = .ok (.aload_n 0, 1) := by decide +kernel
theorem dX7_nextToken_54 : decode cX7_nextToken 54 = .ok (.getfield 92, 3) := by decide +kernel
theorem dX7_nextToken_57 : decode cX7_nextToken 57 = .ok (.putfield 95, 3) := by decide +kernel
theorem dX7_nextToken_60 : decode cX7_nextToken 60 = .ok (.aload_n 0, 1) := by decide +kernel
theorem dX7_nextToken_61 : decode cX7_nextToken 61 = .ok (.iconst 0, 1) := by decide +kernel
theorem dX7_nextToken_62 : decode cX7_nextToken 62 = .ok (.putfield 98, 3) := by decide +kernel
theorem dX7_nextToken_65 : decode cX7_nextToken 65 = .ok (.aload_n 0, 1) := by decide +kernel
theorem dX7_nextToken_66 : decode cX7_nextToken 66 = .ok (.iconst 0, 1) := by decide +kernel
theorem dX7_nextToken_67 : decode cX7_nextToken 67 = .ok (.putfield 101, 3) := by decide +kernel
theorem dX7_nextToken_70 : decode cX7_nextToken 70 = .ok (.aload_n 0, 1) := by decide +kernel
theorem dX7_nextToken_71 : decode cX7_nextToken 71 = .ok (.getfield 92, 3) := by decide +kernel
theorem dX7_nextToken_74 : decode cX7_nextToken 74 = .ok (.aload_n 0, 1) := by decide +kernel
theorem dX7_nextToken_75 : decode cX7_nextToken 75 = .ok (.getfield 86, 3) := by decide +kernel
theorem dX7_nextToken_78 : decode cX7_nextToken 78 = .ok (.if_icmp .ne 13, 3) := by decide +kernel
theorem dX7_nextToken_81 : decode cX7_nextToken 81 = .ok (.aload_n 0, 1) := by decide +kernel
theorem dX7_nextToken_82 : decode cX7_nextToken 82 = .ok (.ldc2_w 104, 3) := by decide +kernel
theorem dX7_nextToken_85 : decode cX7_nextToken 85 = .ok (.putfield 106, 3) := by decide +kernel
theorem dX7_nextToken_88 : decode cX7_nextToken 88 = .ok (.goto 320, 3) := by decide +kernel
theorem dX7_nextToken_91 : decode cX7_nextToken 91 = .ok (.aload_n 0, 1) := by decide +kernel
theorem dX7_nextToken_92 : decode cX7_nextToken 92 = .ok (.getfield 19, 3) := by decide +kernel
theorem dX7_nextToken_95 : decode cX7_nextToken 95 = .ok (.aload_n 0, 1) := by decide +kernel
theorem dX7_nextToken_96 : decode cX7_nextToken 96 = .ok (.getfield 92, 3) := by decide +kernel
theorem dX7_nextToken_99 : decode cX7_nextToken 99 = .ok (.iaload, 1) := by decide +kernel
theorem dX7_nextToken_100 : decode cX7_nextToken 100 = .ok (.bipush 97, 2) := by decide +kernel
theorem dX7_nextToken_102 : decode cX7_nextToken 102 = .ok (.bipush 122, 2) := by decide +kernel
theorem dX7_nextToken_104 : decode cX7_nextToken 104 = .ok (.invokestatic 67, 3) := by decide +kernel
theorem dX7_nextToken_107 : decode cX7_nextToken 107 = .ok (.ifCond .eq 129, 3) := by decide +kernel
theorem dX7_nextToken_110 : decode cX7_nextToken 110 = .ok (.aload_n 0, 1) := by decide +kernel
theorem dX7_nextToken_111 : decode cX7_nextToken 111 = .ok (.lconst 0, 1) := by decide +kernel
theorem dX7_nextToken_112 : decode cX7_nextToken 112 = .ok (.putfield 106, 3) := by decide +kernel
theorem dX7_nextToken_115 : decode cX7_nextToken 115 = .ok (.aload_n 0, 1) := by decide +kernel
theorem dX7_nextToken_116 : decode cX7_nextToken 116 = .ok (.getfield 92, 3) := by decide +kernel
theorem dX7_nextToken_119 : decode cX7_nextToken 119 = .ok (.aload_n 0, 1) := by decide +kernel
theorem dX7_nextToken_120 : decode cX7_nextToken 120 = .ok (.getfield 86, 3) := by decide +kernel
theorem dX7_nextToken_123 : decode cX7_nextToken 123 = .ok (.if_icmp .ge 82, 3) := by decide +kernel
theorem dX7_nextToken_126 : decode cX7_nextToken 126 = .ok (.aload_n 0, 1) := by decide +kernel
theorem dX7_nextToken_127 : decode cX7_nextToken 127 = .ok (.getfield 19, 3) := by decide +kernel
theorem dX7_nextToken_130 : decode cX7_nextToken 130 = .ok (.aload_n 0, 1) := by decide +kernel
theorem dX7_nextToken_131 : decode cX7_nextToken 131 = .ok (.getfield 92, 3) := by decide +kernel
theorem dX7_nextToken_134 : decode cX7_nextToken 134 = .ok (.iaload, 1) := by decide +kernel
theorem dX7_nextToken_135 : decode cX7_nextToken 135 = .ok (.bipush 97, 2) := by decide +kernel
theorem dX7_nextToken_137 : decode cX7_nextToken 137 = .ok (.bipush 122, 2) := by decide +kernel
theorem dX7_nextToken_139 : decode cX7_nextToken 139 = .ok (.invokestatic 67, 3) := by decide +kernel
theorem dX7_nextToken_142 : decode cX7_nextToken 142 = .ok (.ifCond .eq 63, 3) := by decide +kernel
theorem dX7_nextToken_145 : decode cX7_nextToken 145 = .ok (.aload_n 0, 1) := by decide +kernel
theorem dX7_nextToken_146 : decode cX7_nextToken 146 = .ok (.aload_n 0, 1) := by decide +kernel
theorem dX7_nextToken_147 : decode cX7_nextToken 147 = .ok (.getfield 92, 3) := by decide +kernel
theorem dX7_nextToken_150 : decode cX7_nextToken 150 = .ok (.aload_n 0, 1) := by decide +kernel
theorem dX7_nextToken_151 : decode cX7_nextToken 151 = .ok (.getfield 95, 3) := by decide +kernel
theorem dX7_nextToken_154 : decode cX7_nextToken 154 = .ok (.isub, 1) := by decide +kernel
theorem dX7_nextToken_155 : decode cX7_nextToken 155 = .ok (.bipush 9, 2) := by decide +kernel
theorem dX7_nextToken_157 : decode cX7_nextToken 157 = .ok (.if_icmp .ge 29, 3) := by decide +kernel
theorem dX7_nextToken_160 : decode cX7_nextToken 160 = .ok (.ldc2_w 110, 3) := by decide +kernel
theorem dX7_nextToken_163 : decode cX7_nextToken 163 = .ok (.aload_n 0, 1) := by decide +kernel
theorem dX7_nextToken_164 : decode cX7_nextToken 164 = .ok (.getfield 106, 3) := by decide +kernel
theorem dX7_nextToken_167 : decode cX7_nextToken 167 = .ok (.lmul, 1) := by decide +kernel
theorem dX7_nextToken_168 : decode cX7_nextToken 168 = .ok (.aload_n 0, 1) := by decide +kernel
theorem dX7_nextToken_169 : decode cX7_nextToken 169 = .ok (.getfield 19, 3) := by decide +kernel
theorem dX7_nextToken_172 : decode cX7_nextToken 172 = .ok (.aload_n 0, 1) := by decide +kernel
theorem dX7_nextToken_173 : decode cX7_nextToken 173 = .ok (.getfield 92, 3) := by decide +kernel
theorem dX7_nextToken_176 : decode cX7_nextToken 176 = .ok (.iaload, 1) := by decide +kernel
theorem dX7_nextToken_177 : decode cX7_nextToken 177 = .ok (.i2l, 1) := by decide +kernel
theorem dX7_nextToken_178 : decode cX7_nextToken 178 = .ok (.ladd, 1) := by decide +kernel
theorem dX7_nextToken_179 : decode cX7_nextToken 179 = .ok (.ldc2_w 112, 3) := by decide +kernel
theorem dX7_nextToken_182 : decode cX7_nextToken 182 = .ok (.lsub, 1) := by decide +kernel
theorem dX7_nextToken_183 : decode cX7_nextToken 183 = .ok (.goto 6, 3) := by decide +kernel
theorem dX7_nextToken_186 : decode cX7_nextToken 186 = .ok (.ldc2_w 114, 3) := by decide +kernel
theorem dX7_nextToken_189 : decode cX7_nextToken 189 = .ok (.putfield 106, 3) := by decide +kernel
theorem dX7_nextToken_192 : decode cX7_nextToken 192 = .ok (.aload_n 0, 1) := by decide +kernel
theorem dX7_nextToken_193 : decode cX7_nextToken 193 = .ok (.dup, 1) := by decide +kernel
theorem dX7_nextToken_194 : decode cX7_nextToken 194 = .ok (.getfield 92, 3) := by decide +kernel
theorem dX7_nextToken_197 : decode cX7_nextToken 197 = .ok (.iconst 1, 1) := by decide +kernel
theorem dX7_nextToken_198 : decode cX7_nextToken 198 = .ok (.iadd, 1) := by decide +kernel
theorem dX7_nextToken_199 : decode cX7_nextToken 199 = .ok (.putfield 92, 3) := by decide +kernel
theorem dX7_nextToken_202 : decode cX7_nextToken 202 = .ok (.goto (-87), 3) := by decide +kernel
theorem dX7_nextToken_205 : decode cX7_nextToken 205 = .ok (.aload_n 0, 1) := by decide +kernel
theorem dX7_nextToken_206 : decode cX7_nextToken 206 = .ok (.aload_n 0, 1) := by decide +kernel
theorem dX7_nextToken_207 : decode cX7_nextToken 207 = .ok (.getfield 92, 3) := by decide +kernel
theorem dX7_nextToken_210 : decode cX7_nextToken 210 = .ok (.aload_n 0, 1) := by decide +kernel
theorem dX7_nextToken_211 : decode cX7_nextToken 211 = .ok (.getfield 95, 3) := by decide +kernel
theorem dX7_nextToken_214 : decode cX7_nextToken 214 = .ok (.isub, 1) := by decide +kernel
theorem dX7_nextToken_215 : decode cX7_nextToken 215 = .ok (.bipush 9, 2) := by decide +kernel
theorem dX7_nextToken_217 : decode cX7_nextToken 217 = .ok (.if_icmp .le 9, 3) := by decide +kernel
theorem dX7_nextToken_220 : decode cX7_nextToken 220 = .ok (.ldc2_w 114, 3) := by decide +kernel
theorem dX7_nextToken_223 : decode cX7_nextToken 223 = .ok (.goto 7, 3) := by decide +kernel
theorem dX7_nextToken_226 : decode cX7_nextToken 226 = .ok (.aload_n 0, 1) := by decide +kernel
theorem dX7_nextToken_227 : decode cX7_nextToken 227 = .ok (.getfield 106, 3) := by decide +kernel
theorem dX7_nextToken_230 : decode cX7_nextToken 230 = .ok (.putfield 106, 3) := by decide +kernel
theorem dX7_nextToken_233 : decode cX7_nextToken 233 = .ok (.goto 175, 3) := by decide +kernel
theorem dX7_nextToken_236 : decode cX7_nextToken 236 = .ok (.aload_n 0, 1) := by decide +kernel
theorem dX7_nextToken_237 : decode cX7_nextToken 237 = .ok (.getfield 19, 3) := by decide +kernel
theorem dX7_nextToken_240 : decode cX7_nextToken 240 = .ok (.aload_n 0, 1) := by decide +kernel
theorem dX7_nextToken_241 : decode cX7_nextToken 241 = .ok (.getfield 92, 3) := by decide +kernel
theorem dX7_nextToken_244 : decode cX7_nextToken 244 = .ok (.iaload, 1) := by decide +kernel
theorem dX7_nextToken_245 : decode cX7_nextToken 245 = .ok (.bipush 48, 2) := by decide +kernel
theorem dX7_nextToken_247 : decode cX7_nextToken 247 = .ok (.bipush 57, 2) := by decide +kernel
theorem dX7_nextToken_249 : decode cX7_nextToken 249 = .ok (.invokestatic 67, 3) := by decide +kernel
theorem dX7_nextToken_252 : decode cX7_nextToken 252 = .ok (.ifCond .eq 119, 3) := by decide +kernel
theorem dX7_nextToken_255 : decode cX7_nextToken 255 = .ok (.aload_n 0, 1) := by decide +kernel
theorem dX7_nextToken_256 : decode cX7_nextToken 256 = .ok (.getfield 92, 3) := by decide +kernel
theorem dX7_nextToken_259 : decode cX7_nextToken 259 = .ok (.aload_n 0, 1) := by decide +kernel
theorem dX7_nextToken_260 : decode cX7_nextToken 260 = .ok (.getfield 86, 3) := by decide +kernel
theorem dX7_nextToken_263 : decode cX7_nextToken 263 = .ok (.if_icmp .ge 84, 3) := by decide +kernel
theorem dX7_nextToken_266 : decode cX7_nextToken 266 = .ok (.aload_n 0, 1) := by decide +kernel
theorem dX7_nextToken_267 : decode cX7_nextToken 267 = .ok (.getfield 19, 3) := by decide +kernel
theorem dX7_nextToken_270 : decode cX7_nextToken 270 = .ok (.aload_n 0, 1) := by decide +kernel
theorem dX7_nextToken_271 : decode cX7_nextToken 271 = .ok (.getfield 92, 3) := by decide +kernel
theorem dX7_nextToken_274 : decode cX7_nextToken 274 = .ok (.iaload, 1) := by decide +kernel
theorem dX7_nextToken_275 : decode cX7_nextToken 275 = .ok (.bipush 48, 2) := by decide +kernel
theorem dX7_nextToken_277 : decode cX7_nextToken 277 = .ok (.bipush 57, 2) := by decide +kernel
theorem dX7_nextToken_279 : decode cX7_nextToken 279 = .ok (.invokestatic 67, 3) := by decide +kernel
theorem dX7_nextToken_282 : decode cX7_nextToken 282 = .ok (.ifCond .eq 65, 3) := by decide +kernel
theorem dX7_nextToken_285 : decode cX7_nextToken 285 = .ok (.aload_n 0, 1) := by decide +kernel
theorem dX7_nextToken_286 : decode cX7_nextToken 286 = .ok (.aload_n 0, 1) := by decide +kernel
theorem dX7_nextToken_287 : decode cX7_nextToken 287 = .ok (.getfield 98, 3) := by decide +kernel
theorem dX7_nextToken_290 : decode cX7_nextToken 290 = .ok (.iconst 3, 1) := by decide +kernel
theorem dX7_nextToken_291 : decode cX7_nextToken 291 = .ok (.if_icmp .ge 26, 3) := by decide +kernel
theorem dX7_nextToken_294 : decode cX7_nextToken 294 = .ok (.bipush 10, 2) := by decide +kernel
theorem dX7_nextToken_296 : decode cX7_nextToken 296 = .ok (.aload_n 0, 1) := by decide +kernel
theorem dX7_nextToken_297 : decode cX7_nextToken 297 = .ok (.getfield 101, 3) := by decide +kernel
theorem dX7_nextToken_300 : decode cX7_nextToken 300 = .ok (.imul, 1) := by decide +kernel
theorem dX7_nextToken_301 : decode cX7_nextToken 301 = .ok (.aload_n 0, 1) := by decide +kernel
theorem dX7_nextToken_302 : decode cX7_nextToken 302 = .ok (.getfield 19, 3) := by decide +kernel
theorem dX7_nextToken_305 : decode cX7_nextToken 305 = .ok (.aload_n 0, 1) := by decide +kernel
theorem dX7_nextToken_306 : decode cX7_nextToken 306 = .ok (.getfield 92, 3) := by decide +kernel
theorem dX7_nextToken_309 : decode cX7_nextToken 309 = .ok (.iaload, 1) := by decide +kernel
theorem dX7_nextToken_310 : decode cX7_nextToken 310 = .ok (.iadd, 1) := by decide +kernel
