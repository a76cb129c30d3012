theorem dX11_customs_2 : decode cX11_customs 2 = .ok (.invokevirtual 147, 3) := by decide +kernel
theorem dX11_customs_5 : decode cX11_customs 5 = .ok (.ifCond .eq 16, 3) := by decide +kernel
theorem dX11_customs_8 : decode cX11_customs 8 = .ok (.aload_n 0, 1) := by decide +kernel
theorem dX11_customs_9 : decode cX11_customs 9 = .ok (.getfield 26, 3) := by decide +kernel
theorem dX11_customs_12 : decode cX11_customs 12 = .ok (.iload_n 1, 1) := by decide +kernel
theorem dX11_customs_13 : decode cX11_customs 13 = .ok (.aaload, 1) := by decide +kernel
theorem dX11_customs_14 : decode cX11_customs 14 = .ok (.iload_n 2, 1) := by decide +kernel
theorem dX11_customs_15 : decode cX11_customs 15 = .ok (.invokevirtual 173, 3) := by decide +kernel
theorem dX11_customs_18 : decode cX11_customs 18 = .ok (.goto 4, 3) := by decide +kernel
theorem dX11_customs_21 : decode cX11_customs 21 = .ok (.iconst (-1), 1) := by decide +kernel
theorem dX11_customs_22 : decode cX11_customs 22 = .ok (.ireturn, 1) := by decide +kernel
theorem dX11_of_0 : decode cX11_of 0 = .ok (.aload_n 0, 1) := by decide +kernel
theorem dX11_of_1 : decode cX11_of 1 = .ok (.iload_n 1, 1) := by decide +kernel
theorem dX11_of_2 : decode cX11_of 2 = .ok (.invokevirtual 176, 3) := by decide +kernel
theorem dX11_of_5 : decode cX11_of 5 = .ok (.ifCond .ne 5, 3) := by decide +kernel
theorem dX11_of_8 : decode cX11_of 8 = .ok (.iconst (-1), 1) := by decide +kernel
theorem dX11_of_9 : decode cX11_of 9 = .ok (.ireturn, 1) := by decide +kernel
theorem dX11_of_10 : decode cX11_of 10 = .ok (.iload_n 2, 1) := by decide +kernel
theorem dX11_of_11 : decode cX11_of 11 = .ok (.tableswitch 120 0 6 #[41, 50, 59, 72, 85, 94, 111], 41) := by decide +kernel
theorem dX11_of_52 : decode cX11_of 52 = .ok (.aload_n 0, 1) := by decide +kernel
theorem dX11_of_53 : decode cX11_of 53 = .ok (.getfield 33, 3) := by decide +kernel
theorem dX11_of_56 : decode cX11_of 56 = .ok (.iload_n 1, 1) := by decide +kernel
theorem dX11_of_57 : decode cX11_of 57 = .ok (.invokevirtual 179, 3) := by decide +kernel
theorem dX11_of_60 : decode cX11_of 60 = .ok (.ireturn, 1) := by decide +kernel
theorem dX11_of_61 : decode cX11_of 61 = .ok (.aload_n 0, 1) := by decide +kernel
theorem dX11_of_62 : decode cX11_of 62 = .ok (.getfield 33, 3) := by decide +kernel
theorem dX11_of_65 : decode cX11_of 65 = .ok (.iload_n 1, 1) := by decide +kernel
theorem dX11_of_66 : decode cX11_of 66 = .ok (.invokevirtual 182, 3) := by decide +kernel
theorem dX11_of_69 : decode cX11_of 69 = .ok (.ireturn, 1) := by decide +kernel
theorem dX11_of_70 : decode cX11_of 70 = .ok (.aload_n 0, 1) := by decide +kernel
theorem dX11_of_71 : decode cX11_of 71 = .ok (.getfield 33, 3) := by decide +kernel
theorem dX11_of_74 : decode cX11_of 74 = .ok (.iload_n 1, 1) := by decide +kernel
theorem dX11_of_75 : decode cX11_of 75 = .ok (.aload_n 0, 1) := by decide +kernel
theorem dX11_of_76 : decode cX11_of 76 = .ok (.invokevirtual 163, 3) := by decide +kernel
theorem dX11_of_79 : decode cX11_of 79 = .ok (.invokevirtual 185, 3) := by decide +kernel
theorem dX11_of_82 : decode cX11_of 82 = .ok (.ireturn, 1) := by decide +kernel
theorem dX11_of_83 : decode cX11_of 83 = .ok (.aload_n 0, 1) := by decide +kernel
theorem dX11_of_84 : decode cX11_of 84 = .ok (.getfield 68, 3) := by decide +kernel
theorem dX11_of_87 : decode cX11_of 87 = .ok (.iload_n 1, 1) := by decide +kernel
theorem dX11_of_88 : decode cX11_of 88 = .ok (.aload_n 0, 1) := by decide +kernel
theorem dX11_of_89 : decode cX11_of 89 = .ok (.invokevirtual 108, 3) := by decide +kernel
theorem dX11_of_92 : decode cX11_of 92 = .ok (.invokevirtual 189, 3) := by decide +kernel
theorem dX11_of_95 : decode cX11_of 95 = .ok (.ireturn, 1) := by decide +kernel
theorem dX11_of_96 : decode cX11_of 96 = .ok (.aload_n 0, 1) := by decide +kernel
theorem dX11_of_97 : decode cX11_of 97 = .ok (.getfield 68, 3) := by decide +kernel
theorem dX11_of_100 : decode cX11_of 100 = .ok (.iload_n 1, 1) := by decide +kernel
theorem dX11_of_101 : decode cX11_of 101 = .ok (.invokevirtual 192, 3) := by decide +kernel
theorem dX11_of_104 : decode cX11_of 104 = .ok (.ireturn, 1) := by decide +kernel
theorem dX11_of_105 : decode cX11_of 105 = .ok (.aload_n 0, 1) := by decide +kernel
theorem dX11_of_106 : decode cX11_of 106 = .ok (.getfield 68, 3) := by decide +kernel
theorem dX11_of_109 : decode cX11_of 109 = .ok (.iload_n 1, 1) := by decide +kernel
theorem dX11_of_110 : decode cX11_of 110 = .ok (.invokevirtual 195, 3) := by decide +kernel
theorem dX11_of_113 : decode cX11_of 113 = .ok (.ifCond .eq 7, 3) := by decide +kernel
theorem dX11_of_116 : decode cX11_of 116 = .ok (.iconst 1, 1) := by decide +kernel
theorem dX11_of_117 : decode cX11_of 117 = .ok (.goto 4, 3) := by decide +kernel
theorem dX11_of_120 : decode cX11_of 120 = .ok (.iconst 0, 1) := by decide +kernel
theorem dX11_of_121 : decode cX11_of 121 = .ok (.ireturn, 1) := by decide +kernel
theorem dX11_of_122 : decode cX11_of 122 = .ok (.aload_n 0, 1) := by decide +kernel
theorem dX11_of_123 : decode cX11_of 123 = .ok (.getfield 33, 3) := by decide +kernel
theorem dX11_of_126 : decode cX11_of 126 = .ok (.iload_n 1, 1) := by decide +kernel
theorem dX11_of_127 : decode cX11_of 127 = .ok (.invokevirtual 198, 3) := by decide +kernel
theorem dX11_of_130 : decode cX11_of 130 = .ok (.ireturn, 1) := by decide +kernel
theorem dX11_of_131 : decode cX11_of 131 = .ok (.iconst (-1), 1) := by decide +kernel
theorem dX11_of_132 : decode cX11_of 132 = .ok (.ireturn, 1) := by decide +kernel
theorem dX11_at_0 : decode cX11_at 0 = .ok (.aload_n 0, 1) := by decide +kernel
theorem dX11_at_1 : decode cX11_at 1 = .ok (.iload_n 1, 1) := by decide +kernel
theorem dX11_at_2 : decode cX11_at 2 = .ok (.invokevirtual 201, 3) := by decide +kernel
theorem dX11_at_5 : decode cX11_at 5 = .ok (.ifCond .ne 5, 3) := by decide +kernel
theorem dX11_at_8 : decode cX11_at 8 = .ok (.iconst (-1), 1) := by decide +kernel
theorem dX11_at_9 : decode cX11_at 9 = .ok (.ireturn, 1) := by decide +kernel
theorem dX11_at_10 : decode cX11_at 10 = .ok (.iload_n 2, 1) := by decide +kernel
theorem dX11_at_11 : decode cX11_at 11 = .ok (.tableswitch 91 0 5 #[37, 46, 55, 64, 73, 82], 37) := by decide +kernel
theorem dX11_at_48 : decode cX11_at 48 = .ok (.aload_n 0, 1) := by decide +kernel
theorem dX11_at_49 : decode cX11_at 49 = .ok (.getfield 33, 3) := by decide +kernel
theorem dX11_at_52 : decode cX11_at 52 = .ok (.iload_n 1, 1) := by decide +kernel
theorem dX11_at_53 : decode cX11_at 53 = .ok (.invokevirtual 204, 3) := by decide +kernel
theorem dX11_at_56 : decode cX11_at 56 = .ok (.ireturn, 1) := by decide +kernel
theorem dX11_at_57 : decode cX11_at 57 = .ok (.aload_n 0, 1) := by decide +kernel
theorem dX11_at_58 : decode cX11_at 58 = .ok (.getfield 33, 3) := by decide +kernel
theorem dX11_at_61 : decode cX11_at 61 = .ok (.iload_n 1, 1) := by decide +kernel
theorem dX11_at_62 : decode cX11_at 62 = .ok (.invokevirtual 207, 3) := by decide +kernel
theorem dX11_at_65 : decode cX11_at 65 = .ok (.ireturn, 1) := by decide +kernel
theorem dX11_at_66 : decode cX11_at 66 = .ok (.aload_n 0, 1) := by decide +kernel
theorem dX11_at_67 : decode cX11_at 67 = .ok (.getfield 33, 3) := by decide +kernel
theorem dX11_at_70 : decode cX11_at 70 = .ok (.iload_n 1, 1) := by decide +kernel
theorem dX11_at_71 : decode cX11_at 71 = .ok (.invokevirtual 210, 3) := by decide +kernel
theorem dX11_at_74 : decode cX11_at 74 = .ok (.ireturn, 1) := by decide +kernel
theorem dX11_at_75 : decode cX11_at 75 = .ok (.aload_n 0, 1) := by decide +kernel
theorem dX11_at_76 : decode cX11_at 76 = .ok (.getfield 33, 3) := by decide +kernel
theorem dX11_at_79 : decode cX11_at 79 = .ok (.iload_n 1, 1) := by decide +kernel
theorem dX11_at_80 : decode cX11_at 80 = .ok (.invokevirtual 213, 3) := by decide +kernel
theorem dX11_at_83 : decode cX11_at 83 = .ok (.ireturn, 1) := by decide +kernel
theorem dX11_at_84 : decode cX11_at 84 = .ok (.aload_n 0, 1) := by decide +kernel
theorem dX11_at_85 : decode cX11_at 85 = .ok (.getfield 40, 3) := by decide +kernel
theorem dX11_at_88 : decode cX11_at 88 = .ok (.iload_n 1, 1) := by decide +kernel
theorem dX11_at_89 : decode cX11_at 89 = .ok (.invokevirtual 216, 3) := by decide +kernel
theorem dX11_at_92 : decode cX11_at 92 = .ok (.ireturn, 1) := by decide +kernel
theorem dX11_at_93 : decode cX11_at 93 = .ok (.aload_n 0, 1) := by decide +kernel
theorem dX11_at_94 : decode cX11_at 94 = .ok (.getfield 40, 3) := by decide +kernel
theorem dX11_at_97 : decode cX11_at 97 = .ok (.iload_n 1, 1) := by decide +kernel
theorem dX11_at_98 : decode cX11_at 98 = .ok (.invokevirtual 219, 3) := by decide +kernel
theorem dX11_at_101 : decode cX11_at 101 = .ok (.ireturn, 1) := by decide +kernel
theorem dX11_at_102 : decode cX11_at 102 = .ok (.iload_n 2, 1) := by decide +kernel
theorem dX11_at_103 : decode cX11_at 103 = .ok (.bipush 10, 2) := by decide +kernel
theorem dX11_at_105 : decode cX11_at 105 = .ok (.if_icmp .lt 18, 3) := by decide +kernel
theorem dX11_at_108 : decode cX11_at 108 = .ok (.aload_n 0, 1) := by decide +kernel
theorem dX11_at_109 : decode cX11_at 109 = .ok (.getfield 40, 3) := by decide +kernel
theorem dX11_at_112 : decode cX11_at 112 = .ok (.iload_n 1, 1) := by decide +kernel
theorem dX11_at_113 : decode cX11_at 113 = .ok (.iload_n 2, 1) := by decide +kernel
theorem dX11_at_114 : decode cX11_at 114 = .ok (.bipush 10, 2) := by decide +kernel
theorem dX11_at_116 : decode cX11_at 116 = .ok (.isub, 1) := by decide +kernel
theorem dX11_at_117 : decode cX11_at 117 = .ok (.invokevirtual 222, 3) := by decide +kernel
theorem dX11_at_120 : decode cX11_at 120 = .ok (.goto 4, 3) := by decide +kernel
theorem dX11_at_123 : decode cX11_at 123 = .ok (.iconst (-1), 1) := by decide +kernel
theorem dX11_at_124 : decode cX11_at 124 = .ok (.ireturn, 1) := by decide +kernel
theorem dX11_reads_0 : decode cX11_reads 0 = .ok (.aload_n 0, 1) := by decide +kernel
theorem dX11_reads_1 : decode cX11_reads 1 = .ok (.iload_n 1, 1) := by decide +kernel
theorem dX11_reads_2 : decode cX11_reads 2 = .ok (.invokevirtual 147, 3) := by decide +kernel
theorem dX11_reads_5 : decode cX11_reads 5 = .ok (.ifCond .eq 28, 3) := by decide +kernel
theorem dX11_reads_8 : decode cX11_reads 8 = .ok (.aload_n 0, 1) := by decide +kernel
theorem dX11_reads_9 : decode cX11_reads 9 = .ok (.iload_n 2, 1) := by decide +kernel
theorem dX11_reads_10 : decode cX11_reads 10 = .ok (.invokevirtual 201, 3) := by decide +kernel
theorem dX11_reads_13 : decode cX11_reads 13 = .ok (.ifCond .eq 20, 3) := by decide +kernel
theorem dX11_reads_16 : decode cX11_reads 16 = .ok (.aload_n 0, 1) := by decide +kernel
theorem dX11_reads_17 : decode cX11_reads 17 = .ok (.getfield 40, 3) := by decide +kernel
theorem dX11_reads_20 : decode cX11_reads 20 = .ok (.iload_n 2, 1) := by decide +kernel
theorem dX11_reads_21 : decode cX11_reads 21 = .ok (.aload_n 0, 1) := by decide +kernel
theorem dX11_reads_22 : decode cX11_reads 22 = .ok (.getfield 26, 3) := by decide +kernel
theorem dX11_reads_25 : decode cX11_reads 25 = .ok (.iload_n 1, 1) := by decide +kernel
theorem dX11_reads_26 : decode cX11_reads 26 = .ok (.aaload, 1) := by decide +kernel
theorem dX11_reads_27 : decode cX11_reads 27 = .ok (.invokevirtual 225, 3) := by decide +kernel
theorem dX11_reads_30 : decode cX11_reads 30 = .ok (.goto 6, 3) := by decide +kernel
theorem dX11_reads_33 : decode cX11_reads 33 = .ok (.ldc2_w 229, 3) := by decide +kernel
theorem dX11_reads_36 : decode cX11_reads 36 = .ok (.lreturn, 1) := by decide +kernel
theorem dX11_fits_0 : decode cX11_fits 0 = .ok (.aload_n 0, 1) := by decide +kernel
theorem dX11_fits_1 : decode cX11_fits 1 = .ok (.iload_n 1, 1) := by decide +kernel
theorem dX11_fits_2 : decode cX11_fits 2 = .ok (.invokevirtual 147, 3) := by decide +kernel
theorem dX11_fits_5 : decode cX11_fits 5 = .ok (.ifCond .eq 42, 3) := by decide +kernel
theorem dX11_fits_8 : decode cX11_fits 8 = .ok (.aload_n 0, 1) := by decide +kernel
theorem dX11_fits_9 : decode cX11_fits 9 = .ok (.iload_n 2, 1) := by decide +kernel
theorem dX11_fits_10 : decode cX11_fits 10 = .ok (.invokevirtual 201, 3) := by decide +kernel
theorem dX11_fits_13 : decode cX11_fits 13 = .ok (.ifCond .eq 34, 3) := by decide +kernel
theorem dX11_fits_16 : decode cX11_fits 16 = .ok (.aload_n 0, 1) := by decide +kernel
theorem dX11_fits_17 : decode cX11_fits 17 = .ok (.iload_n 3, 1) := by decide +kernel
theorem dX11_fits_18 : decode cX11_fits 18 = .ok (.invokevirtual 201, 3) := by decide +kernel
theorem dX11_fits_21 : decode cX11_fits 21 = .ok (.ifCond .eq 26, 3) := by decide +kernel
theorem dX11_fits_24 : decode cX11_fits 24 = .ok (.aload_n 0, 1) := by decide +kernel
theorem dX11_fits_25 : decode cX11_fits 25 = .ok (.getfield 33, 3) := by decide +kernel
theorem dX11_fits_28 : decode cX11_fits 28 = .ok (.iload_n 2, 1) := by decide +kernel
theorem dX11_fits_29 : decode cX11_fits 29 = .ok (.invokevirtual 210, 3) := by decide +kernel
theorem dX11_fits_32 : decode cX11_fits 32 = .ok (.ifCond .ne 15, 3) := by decide +kernel
theorem dX11_fits_35 : decode cX11_fits 35 = .ok (.aload_n 0, 1) := by decide +kernel
theorem dX11_fits_36 : decode cX11_fits 36 = .ok (.getfield 33, 3) := by decide +kernel
theorem dX11_fits_39 : decode cX11_fits 39 = .ok (.iload_n 3, 1) := by decide +kernel
theorem dX11_fits_40 : decode cX11_fits 40 = .ok (.invokevirtual 210, 3) := by decide +kernel
theorem dX11_fits_43 : decode cX11_fits 43 = .ok (.iconst 1, 1) := by decide +kernel
theorem dX11_fits_44 : decode cX11_fits 44 = .ok (.if_icmp .eq 5, 3) := by decide +kernel
theorem dX11_fits_47 : decode cX11_fits 47 = .ok (.iconst (-1), 1) := by decide +kernel
theorem dX11_fits_48 : decode cX11_fits 48 = .ok (.ireturn, 1) := by decide +kernel
theorem dX11_fits_49 : decode cX11_fits 49 = .ok (.aload_n 0, 1) := by decide +kernel
theorem dX11_fits_50 : decode cX11_fits 50 = .ok (.aload_n 0, 1) := by decide +kernel
theorem dX11_fits_51 : decode cX11_fits 51 = .ok (.getfield 26, 3) := by decide +kernel
theorem dX11_fits_54 : decode cX11_fits 54 = .ok (.iload_n 1, 1) := by decide +kernel
theorem dX11_fits_55 : decode cX11_fits 55 = .ok (.aaload, 1) := by decide +kernel
theorem dX11_fits_56 : decode cX11_fits 56 = .ok (.iload_n 2, 1) := by decide +kernel
theorem dX11_fits_57 : decode cX11_fits 57 = .ok (.iload_n 3, 1) := by decide +kernel
theorem dX11_fits_58 : decode cX11_fits 58 = .ok (.invokevirtual 231, 3) := by decide +kernel
theorem dX11_fits_61 : decode cX11_fits 61 = .ok (.ifCond .eq 22, 3) := by decide +kernel
theorem dX11_fits_64 : decode cX11_fits 64 = .ok (.aload_n 0, 1) := by decide +kernel
theorem dX11_fits_65 : decode cX11_fits 65 = .ok (.aload_n 0, 1) := by decide +kernel
theorem dX11_fits_66 : decode cX11_fits 66 = .ok (.getfield 26, 3) := by decide +kernel
theorem dX11_fits_69 : decode cX11_fits 69 = .ok (.iload_n 1, 1) := by decide +kernel
theorem dX11_fits_70 : decode cX11_fits 70 = .ok (.aaload, 1) := by decide +kernel
theorem dX11_fits_71 : decode cX11_fits 71 = .ok (.iload_n 2, 1) := by decide +kernel
theorem dX11_fits_72 : decode cX11_fits 72 = .ok (.iload_n 3, 1) := by decide +kernel
theorem dX11_fits_73 : decode cX11_fits 73 = .ok (.invokevirtual 235, 3) := by decide +kernel
theorem dX11_fits_76 : decode cX11_fits 76 = .ok (.ifCond .eq 7, 3) := by decide +kernel
theorem dX11_fits_79 : decode cX11_fits 79 = .ok (.iconst 1, 1) := by decide +kernel
theorem dX11_fits_80 : decode cX11_fits 80 = .ok (.goto 4, 3) := by decide +kernel
theorem dX11_fits_83 : decode cX11_fits 83 = .ok (.iconst 0, 1) := by decide +kernel
theorem dX11_fits_84 : decode cX11_fits 84 = .ok (.ireturn, 1) := by decide +kernel
theorem dX11_join_0 : decode cX11_join 0 = .ok (.aload_n 0, 1) := by decide +kernel
theorem dX11_join_1 : decode cX11_join 1 = .ok (.iload_n 1, 1) := by decide +kernel
theorem dX11_join_2 : decode cX11_join 2 = .ok (.invokevirtual 147, 3) := by decide +kernel
theorem dX11_join_5 : decode cX11_join 5 = .ok (.ifCond .ne 5, 3) := by decide +kernel
theorem dX11_join_8 : decode cX11_join 8 = .ok (.iconst (-1), 1) := by decide +kernel
theorem dX11_join_9 : decode cX11_join 9 = .ok (.ireturn, 1) := by decide +kernel
theorem dX11_join_10 : decode cX11_join 10 = .ok (.aload_n 0, 1) := by decide +kernel
theorem dX11_join_11 : decode cX11_join 11 = .ok (.invokevirtual 238, 3) := by decide +kernel
theorem dX11_join_14 : decode cX11_join 14 = .ok (.iload_n 2, 1) := by decide +kernel
theorem dX11_join_15 : decode cX11_join 15 = .ok (.tableswitch 69 0 3 #[29, 39, 49, 59], 29) := by decide +kernel
theorem dX11_join_44 : decode cX11_join 44 = .ok (.aload_n 0, 1) := by decide +kernel
theorem dX11_join_45 : decode cX11_join 45 = .ok (.getfield 47, 3) := by decide +kernel
theorem dX11_join_48 : decode cX11_join 48 = .ok (.iload_n 1, 1) := by decide +kernel
theorem dX11_join_49 : decode cX11_join 49 = .ok (.aaload, 1) := by decide +kernel
theorem dX11_join_50 : decode cX11_join 50 = .ok (.invokevirtual 241, 3) := by decide +kernel
theorem dX11_join_53 : decode cX11_join 53 = .ok (.ireturn, 1) := by decide +kernel
theorem dX11_join_54 : decode cX11_join 54 = .ok (.aload_n 0, 1) := by decide +kernel
theorem dX11_join_55 : decode cX11_join 55 = .ok (.getfield 47, 3) := by decide +kernel
theorem dX11_join_58 : decode cX11_join 58 = .ok (.iload_n 1, 1) := by decide +kernel
theorem dX11_join_59 : decode cX11_join 59 = .ok (.aaload, 1) := by decide +kernel
theorem dX11_join_60 : decode cX11_join 60 = .ok (.invokevirtual 244, 3) := by decide +kernel
theorem dX11_join_63 : decode cX11_join 63 = .ok (.ireturn, 1) := by decide +kernel
theorem dX11_join_64 : decode cX11_join 64 = .ok (.aload_n 0, 1) := by decide +kernel
theorem dX11_join_65 : decode cX11_join 65 = .ok (.getfield 47, 3) := by decide +kernel
theorem dX11_join_68 : decode cX11_join 68 = .ok (.iload_n 1, 1) := by decide +kernel
theorem dX11_join_69 : decode cX11_join 69 = .ok (.aaload, 1) := by decide +kernel
theorem dX11_join_70 : decode cX11_join 70 = .ok (.invokevirtual 247, 3) := by decide +kernel
theorem dX11_join_73 : decode cX11_join 73 = .ok (.ireturn, 1) := by decide +kernel
theorem dX11_join_74 : decode cX11_join 74 = .ok (.aload_n 0, 1) := by decide +kernel
theorem dX11_join_75 : decode cX11_join 75 = .ok (.getfield 54, 3) := by decide +kernel
theorem dX11_join_78 : decode cX11_join 78 = .ok (.iload_n 1, 1) := by decide +kernel
theorem dX11_join_79 : decode cX11_join 79 = .ok (.aaload, 1) := by decide +kernel
theorem dX11_join_80 : decode cX11_join 80 = .ok (.invokevirtual 250, 3) := by decide +kernel
theorem dX11_join_83 : decode cX11_join 83 = .ok (.ireturn, 1) := by decide +kernel
theorem dX11_join_84 : decode cX11_join 84 = .ok (.iconst (-1), 1) := by decide +kernel
theorem dX11_join_85 : decode cX11_join 85 = .ok (.ireturn, 1) := by decide +kernel
theorem dX11_mate_0 : decode cX11_mate 0 = .ok (.aload_n 0, 1) := by decide +kernel
theorem dX11_mate_1 : decode cX11_mate 1 = .ok (.iload_n 1, 1) := by decide +kernel
theorem dX11_mate_2 : decode cX11_mate 2 = .ok (.invokevirtual 147, 3) := by decide +kernel
theorem dX11_mate_5 : decode cX11_mate 5 = .ok (.ifCond .eq 11, 3) := by decide +kernel
theorem dX11_mate_8 : decode cX11_mate 8 = .ok (.aload_n 0, 1) := by decide +kernel
theorem dX11_mate_9 : decode cX11_mate 9 = .ok (.iload_n 2, 1) := by decide +kernel
theorem dX11_mate_10 : decode cX11_mate 10 = .ok (.invokevirtual 201, 3) := by decide +kernel
theorem dX11_mate_13 : decode cX11_mate 13 = .ok (.ifCond .ne 5, 3) := by decide +kernel
theorem dX11_mate_16 : decode cX11_mate 16 = .ok (.iconst (-1), 1) := by decide +kernel
theorem dX11_mate_17 : decode cX11_mate 17 = .ok (.ireturn, 1) := by decide +kernel
theorem dX11_mate_18 : decode cX11_mate 18 = .ok (.aload_n 0, 1) := by decide +kernel
theorem dX11_mate_19 : decode cX11_mate 19 = .ok (.invokevirtual 238, 3) := by decide +kernel
theorem dX11_mate_22 : decode cX11_mate 22 = .ok (.aload_n 0, 1) := by decide +kernel
theorem dX11_mate_23 : decode cX11_mate 23 = .ok (.getfield 47, 3) := by decide +kernel
theorem dX11_mate_26 : decode cX11_mate 26 = .ok (.iload_n 1, 1) := by decide +kernel
theorem dX11_mate_27 : decode cX11_mate 27 = .ok (.aaload, 1) := by decide +kernel
theorem dX11_mate_28 : decode cX11_mate 28 = .ok (.iload_n 2, 1) := by decide +kernel
theorem dX11_mate_29 : decode cX11_mate 29 = .ok (.invokevirtual 251, 3) := by decide +kernel
theorem dX11_mate_32 : decode cX11_mate 32 = .ok (.ireturn, 1) := by decide +kernel
theorem dX11_forced_0 : decode cX11_forced 0 = .ok (.aload_n 0, 1) := by decide +kernel
theorem dX11_forced_1 : decode cX11_forced 1 = .ok (.iload_n 1, 1) := by decide +kernel
theorem dX11_forced_2 : decode cX11_forced 2 = .ok (.invokevirtual 147, 3) := by decide +kernel
theorem dX11_forced_5 : decode cX11_forced 5 = .ok (.ifCond .eq 11, 3) := by decide +kernel
theorem dX11_forced_8 : decode cX11_forced 8 = .ok (.aload_n 0, 1) := by decide +kernel
theorem dX11_forced_9 : decode cX11_forced 9 = .ok (.iload_n 2, 1) := by decide +kernel
theorem dX11_forced_10 : decode cX11_forced 10 = .ok (.invokevirtual 201, 3) := by decide +kernel
theorem dX11_forced_13 : decode cX11_forced 13 = .ok (.ifCond .ne 5, 3) := by decide +kernel
theorem dX11_forced_16 : decode cX11_forced 16 = .ok (.iconst (-1), 1) := by decide +kernel
theorem dX11_forced_17 : decode cX11_forced 17 = .ok (.ireturn, 1) := by decide +kernel
theorem dX11_forced_18 : decode cX11_forced 18 = .ok (.aload_n 0, 1) := by decide +kernel
theorem dX11_forced_19 : decode cX11_forced 19 = .ok (.invokevirtual 238, 3) := by decide +kernel
theorem dX11_forced_22 : decode cX11_forced 22 = .ok (.aload_n 0, 1) := by decide +kernel
theorem dX11_forced_23 : decode cX11_forced 23 = .ok (.getfield 47, 3) := by decide +kernel
theorem dX11_forced_26 : decode cX11_forced 26 = .ok (.iload_n 1, 1) := by decide +kernel
theorem dX11_forced_27 : decode cX11_forced 27 = .ok (.aaload, 1) := by decide +kernel
theorem dX11_forced_28 : decode cX11_forced 28 = .ok (.iload_n 2, 1) := by decide +kernel
theorem dX11_forced_29 : decode cX11_forced 29 = .ok (.invokevirtual 251, 3) := by decide +kernel
theorem dX11_forced_32 : decode cX11_forced 32 = .ok (.iconst (-1), 1) := by decide +kernel
theorem dX11_forced_33 : decode cX11_forced 33 = .ok (.if_icmp .ne 5, 3) := by decide +kernel
theorem dX11_forced_36 : decode cX11_forced 36 = .ok (.iconst (-1), 1) := by decide +kernel
theorem dX11_forced_37 : decode cX11_forced 37 = .ok (.ireturn, 1) := by decide +kernel
theorem dX11_forced_38 : decode cX11_forced 38 = .ok (.aload_n 0, 1) := by decide +kernel
theorem dX11_forced_39 : decode cX11_forced 39 = .ok (.getfield 47, 3) := by decide +kernel
theorem dX11_forced_42 : decode cX11_forced 42 = .ok (.iload_n 1, 1) := by decide +kernel
theorem dX11_forced_43 : decode cX11_forced 43 = .ok (.aaload, 1) := by decide +kernel
theorem dX11_forced_44 : decode cX11_forced 44 = .ok (.iload_n 2, 1) := by decide +kernel
theorem dX11_forced_45 : decode cX11_forced 45 = .ok (.invokevirtual 254, 3) := by decide +kernel
theorem dX11_forced_48 : decode cX11_forced 48 = .ok (.ifCond .eq 7, 3) := by decide +kernel
theorem dX11_forced_51 : decode cX11_forced 51 = .ok (.iconst 1, 1) := by decide +kernel
theorem dX11_forced_52 : decode cX11_forced 52 = .ok (.goto 4, 3) := by decide +kernel
theorem dX11_forced_55 : decode cX11_forced 55 = .ok (.iconst 0, 1) := by decide +kernel
theorem dX11_forced_56 : decode cX11_forced 56 = .ok (.ireturn, 1) := by decide +kernel
theorem dX11_frameOf_0 : decode cX11_frameOf 0 = .ok (.aload_n 0, 1) := by decide +kernel
theorem dX11_frameOf_1 : decode cX11_frameOf 1 = .ok (.iload_n 1, 1) := by decide +kernel
theorem dX11_frameOf_2 : decode cX11_frameOf 2 = .ok (.invokevirtual 147, 3) := by decide +kernel
theorem dX11_frameOf_5 : decode cX11_frameOf 5 = .ok (.ifCond .eq 11, 3) := by decide +kernel
theorem dX11_frameOf_8 : decode cX11_frameOf 8 = .ok (.aload_n 0, 1) := by decide +kernel
theorem dX11_frameOf_9 : decode cX11_frameOf 9 = .ok (.iload_n 2, 1) := by decide +kernel
theorem dX11_frameOf_10 : decode cX11_frameOf 10 = .ok (.invokevirtual 176, 3) := by decide +kernel
theorem dX11_frameOf_13 : decode cX11_frameOf 13 = .ok (.ifCond .ne 5, 3) := by decide +kernel
theorem dX11_frameOf_16 : decode cX11_frameOf 16 = .ok (.iconst (-1), 1) := by decide +kernel
theorem dX11_frameOf_17 : decode cX11_frameOf 17 = .ok (.ireturn, 1) := by decide +kernel
theorem dX11_frameOf_18 : decode cX11_frameOf 18 = .ok (.aload_n 0, 1) := by decide +kernel
theorem dX11_frameOf_19 : decode cX11_frameOf 19 = .ok (.invokevirtual 238, 3) := by decide +kernel
theorem dX11_frameOf_22 : decode cX11_frameOf 22 = .ok (.aload_n 0, 1) := by decide +kernel
theorem dX11_frameOf_23 : decode cX11_frameOf 23 = .ok (.getfield 54, 3) := by decide +kernel
theorem dX11_frameOf_26 : decode cX11_frameOf 26 = .ok (.iload_n 1, 1) := by decide +kernel
theorem dX11_frameOf_27 : decode cX11_frameOf 27 = .ok (.aaload, 1) := by decide +kernel
theorem dX11_frameOf_28 : decode cX11_frameOf 28 = .ok (.iload_n 2, 1) := by decide +kernel
theorem dX11_frameOf_29 : decode cX11_frameOf 29 = .ok (.invokevirtual 257, 3) := by decide +kernel
theorem dX11_frameOf_32 : decode cX11_frameOf 32 = .ok (.ireturn, 1) := by decide +kernel
theorem dX11_frame_0 : decode cX11_frame 0 = .ok (.aload_n 0, 1) := by decide +kernel
theorem dX11_frame_1 : decode cX11_frame 1 = .ok (.iload_n 1, 1) := by decide +kernel
theorem dX11_frame_2 : decode cX11_frame 2 = .ok (.iload_n 2, 1) := by decide +kernel
theorem dX11_frame_3 : decode cX11_frame 3 = .ok (.invokevirtual 260, 3) := by decide +kernel
theorem dX11_frame_6 : decode cX11_frame 6 = .ok (.ifCond .ne 5, 3) := by decide +kernel
theorem dX11_frame_9 : decode cX11_frame 9 = .ok (.iconst (-1), 1) := by decide +kernel
theorem dX11_frame_10 : decode cX11_frame 10 = .ok (.ireturn, 1) := by decide +kernel
theorem dX11_frame_11 : decode cX11_frame 11 = .ok (.iload_n 3, 1) := by decide +kernel
theorem dX11_frame_12 : decode cX11_frame 12 = .ok (.tableswitch 86 0 3 #[32, 43, 54, 65], 32) := by decide +kernel
theorem dX11_frame_44 : decode cX11_frame 44 = .ok (.aload_n 0, 1) := by decide +kernel
theorem dX11_frame_45 : decode cX11_frame 45 = .ok (.getfield 54, 3) := by decide +kernel
theorem dX11_frame_48 : decode cX11_frame 48 = .ok (.iload_n 1, 1) := by decide +kernel
theorem dX11_frame_49 : decode cX11_frame 49 = .ok (.aaload, 1) := by decide +kernel
theorem dX11_frame_50 : decode cX11_frame 50 = .ok (.iload_n 2, 1) := by decide +kernel
theorem dX11_frame_51 : decode cX11_frame 51 = .ok (.invokevirtual 264, 3) := by decide +kernel
theorem dX11_frame_54 : decode cX11_frame 54 = .ok (.ireturn, 1) := by decide +kernel
theorem dX11_frame_55 : decode cX11_frame 55 = .ok (.aload_n 0, 1) := by decide +kernel
theorem dX11_frame_56 : decode cX11_frame 56 = .ok (.getfield 54, 3) := by decide +kernel
theorem dX11_frame_59 : decode cX11_frame 59 = .ok (.iload_n 1, 1) := by decide +kernel
theorem dX11_frame_60 : decode cX11_frame 60 = .ok (.aaload, 1) := by decide +kernel
theorem dX11_frame_61 : decode cX11_frame 61 = .ok (.iload_n 2, 1) := by decide +kernel
theorem dX11_frame_62 : decode cX11_frame 62 = .ok (.invokevirtual 267, 3) := by decide +kernel
theorem dX11_frame_65 : decode cX11_frame 65 = .ok (.ireturn, 1) := by decide +kernel
theorem dX11_frame_66 : decode cX11_frame 66 = .ok (.aload_n 0, 1) := by decide +kernel
theorem dX11_frame_67 : decode cX11_frame 67 = .ok (.iload_n 1, 1) := by decide +kernel
theorem dX11_frame_68 : decode cX11_frame 68 = .ok (.iload_n 2, 1) := by decide +kernel
theorem dX11_frame_69 : decode cX11_frame 69 = .ok (.invokevirtual 270, 3) := by decide +kernel
theorem dX11_frame_72 : decode cX11_frame 72 = .ok (.iload_n 2, 1) := by decide +kernel
theorem dX11_frame_73 : decode cX11_frame 73 = .ok (.invokevirtual 274, 3) := by decide +kernel
theorem dX11_frame_76 : decode cX11_frame 76 = .ok (.ireturn, 1) := by decide +kernel
theorem dX11_frame_77 : decode cX11_frame 77 = .ok (.aload_n 0, 1) := by decide +kernel
theorem dX11_frame_78 : decode cX11_frame 78 = .ok (.iload_n 1, 1) := by decide +kernel
theorem dX11_frame_79 : decode cX11_frame 79 = .ok (.iload_n 2, 1) := by decide +kernel
theorem dX11_frame_80 : decode cX11_frame 80 = .ok (.invokevirtual 270, 3) := by decide +kernel
theorem dX11_frame_83 : decode cX11_frame 83 = .ok (.iload_n 2, 1) := by decide +kernel
theorem dX11_frame_84 : decode cX11_frame 84 = .ok (.invokevirtual 277, 3) := by decide +kernel
theorem dX11_frame_87 : decode cX11_frame 87 = .ok (.lconst 0, 1) := by decide +kernel
theorem dX11_frame_88 : decode cX11_frame 88 = .ok (.lcmp, 1) := by decide +kernel
theorem dX11_frame_89 : decode cX11_frame 89 = .ok (.ifCond .le 7, 3) := by decide +kernel
theorem dX11_frame_92 : decode cX11_frame 92 = .ok (.iconst 1, 1) := by decide +kernel
theorem dX11_frame_93 : decode cX11_frame 93 = .ok (.goto 4, 3) := by decide +kernel
theorem dX11_frame_96 : decode cX11_frame 96 = .ok (.iconst 0, 1) := by decide +kernel
theorem dX11_frame_97 : decode cX11_frame 97 = .ok (.ireturn, 1) := by decide +kernel
theorem dX11_frame_98 : decode cX11_frame 98 = .ok (.iconst (-1), 1) := by decide +kernel
theorem dX11_frame_99 : decode cX11_frame 99 = .ok (.ireturn, 1) := by decide +kernel
theorem dX11_orders_0 : decode cX11_orders 0 = .ok (.aload_n 0, 1) := by decide +kernel
theorem dX11_orders_1 : decode cX11_orders 1 = .ok (.iload_n 1, 1) := by decide +kernel
theorem dX11_orders_2 : decode cX11_orders 2 = .ok (.iload_n 2, 1) := by decide +kernel
theorem dX11_orders_3 : decode cX11_orders 3 = .ok (.invokevirtual 260, 3) := by decide +kernel
theorem dX11_orders_6 : decode cX11_orders 6 = .ok (.ifCond .eq 16, 3) := by decide +kernel
theorem dX11_orders_9 : decode cX11_orders 9 = .ok (.aload_n 0, 1) := by decide +kernel
theorem dX11_orders_10 : decode cX11_orders 10 = .ok (.iload_n 1, 1) := by decide +kernel
theorem dX11_orders_11 : decode cX11_orders 11 = .ok (.iload_n 2, 1) := by decide +kernel
theorem dX11_orders_12 : decode cX11_orders 12 = .ok (.invokevirtual 270, 3) := by decide +kernel
theorem dX11_orders_15 : decode cX11_orders 15 = .ok (.iload_n 2, 1) := by decide +kernel
theorem dX11_orders_16 : decode cX11_orders 16 = .ok (.invokevirtual 277, 3) := by decide +kernel
theorem dX11_orders_19 : decode cX11_orders 19 = .ok (.goto 6, 3) := by decide +kernel
theorem dX11_orders_22 : decode cX11_orders 22 = .ok (.ldc2_w 229, 3) := by decide +kernel
theorem dX11_orders_25 : decode cX11_orders 25 = .ok (.lreturn, 1) := by decide +kernel
theorem dX11_raised_0 : decode cX11_raised 0 = .ok (.aload_n 0, 1) := by decide +kernel
theorem dX11_raised_1 : decode cX11_raised 1 = .ok (.iload_n 1, 1) := by decide +kernel
theorem dX11_raised_2 : decode cX11_raised 2 = .ok (.iload_n 2, 1) := by decide +kernel
theorem dX11_raised_3 : decode cX11_raised 3 = .ok (.invokevirtual 260, 3) := by decide +kernel
theorem dX11_raised_6 : decode cX11_raised 6 = .ok (.ifCond .eq 17, 3) := by decide +kernel
theorem dX11_raised_9 : decode cX11_raised 9 = .ok (.aload_n 0, 1) := by decide +kernel
theorem dX11_raised_10 : decode cX11_raised 10 = .ok (.iload_n 1, 1) := by decide +kernel
theorem dX11_raised_11 : decode cX11_raised 11 = .ok (.iload_n 2, 1) := by decide +kernel
theorem dX11_raised_12 : decode cX11_raised 12 = .ok (.invokevirtual 270, 3) := by decide +kernel
theorem dX11_raised_15 : decode cX11_raised 15 = .ok (.iload_n 2, 1) := by decide +kernel
theorem dX11_raised_16 : decode cX11_raised 16 = .ok (.iload_n 3, 1) := by decide +kernel
theorem dX11_raised_17 : decode cX11_raised 17 = .ok (.invokevirtual 281, 3) := by decide +kernel
theorem dX11_raised_20 : decode cX11_raised 20 = .ok (.goto 4, 3) := by decide +kernel
theorem dX11_raised_23 : decode cX11_raised 23 = .ok (.iconst (-1), 1) := by decide +kernel
theorem dX11_raised_24 : decode cX11_raised 24 = .ok (.ireturn, 1) := by decide +kernel
theorem dX11_master_0 : decode cX11_master 0 = .ok (.aload_n 0, 1) := by decide +kernel
theorem dX11_master_1 : decode cX11_master 1 = .ok (.getfield 68, 3) := by decide +kernel
theorem dX11_master_4 : decode cX11_master 4 = .ok (.iload_n 1, 1) := by decide +kernel
theorem dX11_master_5 : decode cX11_master 5 = .ok (.iload_n 2, 1) := by decide +kernel
theorem dX11_master_6 : decode cX11_master 6 = .ok (.invokevirtual 284, 3) := by decide +kernel
theorem dX11_master_9 : decode cX11_master 9 = .ok (.ireturn, 1) := by decide +kernel
theorem dX11_ring_0 : decode cX11_ring 0 = .ok (.aload_n 0, 1) := by decide +kernel
theorem dX11_ring_1 : decode cX11_ring 1 = .ok (.getfield 33, 3) := by decide +kernel
theorem dX11_ring_4 : decode cX11_ring 4 = .ok (.iload_n 1, 1) := by decide +kernel
theorem dX11_ring_5 : decode cX11_ring 5 = .ok (.invokevirtual 287, 3) := by decide +kernel
theorem dX11_ring_8 : decode cX11_ring 8 = .ok (.ifCond .eq 19, 3) := by decide +kernel
theorem dX11_ring_11 : decode cX11_ring 11 = .ok (.aload_n 0, 1) := by decide +kernel
theorem dX11_ring_12 : decode cX11_ring 12 = .ok (.getfield 68, 3) := by decide +kernel
theorem dX11_ring_15 : decode cX11_ring 15 = .ok (.iload_n 1, 1) := by decide +kernel
theorem dX11_ring_16 : decode cX11_ring 16 = .ok (.iload_n 2, 1) := by decide +kernel
theorem dX11_ring_17 : decode cX11_ring 17 = .ok (.aload_n 0, 1) := by decide +kernel
theorem dX11_ring_18 : decode cX11_ring 18 = .ok (.getfield 98, 3) := by decide +kernel
theorem dX11_ring_21 : decode cX11_ring 21 = .ok (.invokevirtual 290, 3) := by decide +kernel
theorem dX11_ring_24 : decode cX11_ring 24 = .ok (.goto 4, 3) := by decide +kernel
theorem dX11_ring_27 : decode cX11_ring 27 = .ok (.iconst (-1), 1) := by decide +kernel
theorem dX11_ring_28 : decode cX11_ring 28 = .ok (.ireturn, 1) := by decide +kernel
theorem dX11_sap_0 : decode cX11_sap 0 = .ok (.aload_n 0, 1) := by decide +kernel
theorem dX11_sap_1 : decode cX11_sap 1 = .ok (.getfield 33, 3) := by decide +kernel
theorem dX11_sap_4 : decode cX11_sap 4 = .ok (.iload_n 1, 1) := by decide +kernel
theorem dX11_sap_5 : decode cX11_sap 5 = .ok (.invokevirtual 287, 3) := by decide +kernel
theorem dX11_sap_8 : decode cX11_sap 8 = .ok (.ifCond .eq 20, 3) := by decide +kernel
theorem dX11_sap_11 : decode cX11_sap 11 = .ok (.aload_n 0, 1) := by decide +kernel
theorem dX11_sap_12 : decode cX11_sap 12 = .ok (.getfield 68, 3) := by decide +kernel
theorem dX11_sap_15 : decode cX11_sap 15 = .ok (.iload_n 1, 1) := by decide +kernel
theorem dX11_sap_16 : decode cX11_sap 16 = .ok (.iload_n 2, 1) := by decide +kernel
theorem dX11_sap_17 : decode cX11_sap 17 = .ok (.iload_n 3, 1) := by decide +kernel
theorem dX11_sap_18 : decode cX11_sap 18 = .ok (.invokevirtual 293, 3) := by decide +kernel
theorem dX11_sap_21 : decode cX11_sap 21 = .ok (.ifCond .eq 7, 3) := by decide +kernel
theorem dX11_sap_24 : decode cX11_sap 24 = .ok (.iconst 1, 1) := by decide +kernel
theorem dX11_sap_25 : decode cX11_sap 25 = .ok (.goto 4, 3) := by decide +kernel
theorem dX11_sap_28 : decode cX11_sap 28 = .ok (.iconst 0, 1) := by decide +kernel
theorem dX11_sap_29 : decode cX11_sap 29 = .ok (.ireturn, 1) := by decide +kernel
theorem dX11_date_0 : decode cX11_date 0 = .ok (.aload_n 0, 1) := by decide +kernel
theorem dX11_date_1 : decode cX11_date 1 = .ok (.iload_n 1, 1) := by decide +kernel
theorem dX11_date_2 : decode cX11_date 2 = .ok (.invokevirtual 147, 3) := by decide +kernel
theorem dX11_date_5 : decode cX11_date 5 = .ok (.ifCond .eq 11, 3) := by decide +kernel
theorem dX11_date_8 : decode cX11_date 8 = .ok (.aload_n 0, 1) := by decide +kernel
theorem dX11_date_9 : decode cX11_date 9 = .ok (.iload_n 2, 1) := by decide +kernel
theorem dX11_date_10 : decode cX11_date 10 = .ok (.invokevirtual 176, 3) := by decide +kernel
theorem dX11_date_13 : decode cX11_date 13 = .ok (.ifCond .ne 5, 3) := by decide +kernel
theorem dX11_date_16 : decode cX11_date 16 = .ok (.iconst (-1), 1) := by decide +kernel
theorem dX11_date_17 : decode cX11_date 17 = .ok (.ireturn, 1) := by decide +kernel
theorem dX11_date_18 : decode cX11_date 18 = .ok (.aload_n 0, 1) := by decide +kernel
theorem dX11_date_19 : decode cX11_date 19 = .ok (.getfield 68, 3) := by decide +kernel
theorem dX11_date_22 : decode cX11_date 22 = .ok (.aload_n 0, 1) := by decide +kernel
theorem dX11_date_23 : decode cX11_date 23 = .ok (.getfield 26, 3) := by decide +kernel
theorem dX11_date_26 : decode cX11_date 26 = .ok (.iload_n 1, 1) := by decide +kernel
theorem dX11_date_27 : decode cX11_date 27 = .ok (.aaload, 1) := by decide +kernel
theorem dX11_date_28 : decode cX11_date 28 = .ok (.iload_n 2, 1) := by decide +kernel
theorem dX11_date_29 : decode cX11_date 29 = .ok (.aload_n 0, 1) := by decide +kernel
theorem dX11_date_30 : decode cX11_date 30 = .ok (.invokevirtual 108, 3) := by decide +kernel
theorem dX11_date_33 : decode cX11_date 33 = .ok (.invokevirtual 297, 3) := by decide +kernel
theorem dX11_date_36 : decode cX11_date 36 = .ok (.aload_n 0, 1) := by decide +kernel
theorem dX11_date_37 : decode cX11_date 37 = .ok (.getfield 68, 3) := by decide +kernel
theorem dX11_date_40 : decode cX11_date 40 = .ok (.iload_n 3, 1) := by decide +kernel
theorem dX11_date_41 : decode cX11_date 41 = .ok (.invokevirtual 301, 3) := by decide +kernel
theorem dX11_date_44 : decode cX11_date 44 = .ok (.ireturn, 1) := by decide +kernel
theorem dX11_built_0 : decode cX11_built 0 = .ok (.aload_n 0, 1) := by decide +kernel
theorem dX11_built_1 : decode cX11_built 1 = .ok (.iload_n 1, 1) := by decide +kernel
theorem dX11_built_2 : decode cX11_built 2 = .ok (.iload_n 2, 1) := by decide +kernel
theorem dX11_built_3 : decode cX11_built 3 = .ok (.invokevirtual 260, 3) := by decide +kernel
theorem dX11_built_6 : decode cX11_built 6 = .ok (.ifCond .ne 5, 3) := by decide +kernel
theorem dX11_built_9 : decode cX11_built 9 = .ok (.iconst (-1), 1) := by decide +kernel
theorem dX11_built_10 : decode cX11_built 10 = .ok (.ireturn, 1) := by decide +kernel
theorem dX11_built_11 : decode cX11_built 11 = .ok (.aload_n 0, 1) := by decide +kernel
theorem dX11_built_12 : decode cX11_built 12 = .ok (.getfield 75, 3) := by decide +kernel
theorem dX11_built_15 : decode cX11_built 15 = .ok (.invokevirtual 304, 3) := by decide +kernel
theorem dX11_built_18 : decode cX11_built 18 = .ok (.iconst 0, 1) := by decide +kernel
theorem dX11_built_19 : decode cX11_built 19 = .ok (.istore 4, 2) := by decide +kernel
theorem dX11_built_21 : decode cX11_built 21 = .ok (.iload 4, 2) := by decide +kernel
theorem dX11_built_23 : decode cX11_built 23 = .ok (.bipush 16, 2) := by decide +kernel
theorem dX11_built_25 : decode cX11_built 25 = .ok (.if_icmp .ge 81, 3) := by decide +kernel
theorem dX11_built_28 : decode cX11_built 28 = .ok (.aload_n 0, 1) := by decide +kernel
theorem dX11_built_29 : decode cX11_built 29 = .ok (.getfield 54, 3) := by decide +kernel
theorem dX11_built_32 : decode cX11_built 32 = .ok (.iload_n 1, 1) := by decide +kernel
theorem dX11_built_33 : decode cX11_built 33 = .ok (.aaload, 1) := by decide +kernel
theorem dX11_built_34 : decode cX11_built 34 = .ok (.iload_n 2, 1) := by decide +kernel
theorem dX11_built_35 : decode cX11_built 35 = .ok (.invokevirtual 264, 3) := by decide +kernel
theorem dX11_built_38 : decode cX11_built 38 = .ok (.iload 4, 2) := by decide +kernel
theorem dX11_built_40 : decode cX11_built 40 = .ok (.ishr, 1) := by decide +kernel
theorem dX11_built_41 : decode cX11_built 41 = .ok (.iconst 1, 1) := by decide +kernel
theorem dX11_built_42 : decode cX11_built 42 = .ok (.iand, 1) := by decide +kernel
theorem dX11_built_43 : decode cX11_built 43 = .ok (.iconst 1, 1) := by decide +kernel
theorem dX11_built_44 : decode cX11_built 44 = .ok (.if_icmp .ne 56, 3) := by decide +kernel
theorem dX11_built_47 : decode cX11_built 47 = .ok (.aload_n 0, 1) := by decide +kernel
theorem dX11_built_48 : decode cX11_built 48 = .ok (.getfield 68, 3) := by decide +kernel
theorem dX11_built_51 : decode cX11_built 51 = .ok (.aload_n 0, 1) := by decide +kernel
theorem dX11_built_52 : decode cX11_built 52 = .ok (.getfield 26, 3) := by decide +kernel
theorem dX11_built_55 : decode cX11_built 55 = .ok (.iload_n 1, 1) := by decide +kernel
theorem dX11_built_56 : decode cX11_built 56 = .ok (.aaload, 1) := by decide +kernel
theorem dX11_built_57 : decode cX11_built 57 = .ok (.iload 4, 2) := by decide +kernel
theorem dX11_built_59 : decode cX11_built 59 = .ok (.aload_n 0, 1) := by decide +kernel
theorem dX11_built_60 : decode cX11_built 60 = .ok (.invokevirtual 108, 3) := by decide +kernel
theorem dX11_built_63 : decode cX11_built 63 = .ok (.invokevirtual 297, 3) := by decide +kernel
theorem dX11_built_66 : decode cX11_built 66 = .ok (.aload_n 0, 1) := by decide +kernel
theorem dX11_built_67 : decode cX11_built 67 = .ok (.getfield 68, 3) := by decide +kernel
theorem dX11_built_70 : decode cX11_built 70 = .ok (.invokevirtual 307, 3) := by decide +kernel
theorem dX11_built_73 : decode cX11_built 73 = .ok (.ifCond .eq 27, 3) := by decide +kernel
theorem dX11_built_76 : decode cX11_built 76 = .ok (.aload_n 0, 1) := by decide +kernel
theorem dX11_built_77 : decode cX11_built 77 = .ok (.getfield 75, 3) := by decide +kernel
theorem dX11_built_80 : decode cX11_built 80 = .ok (.aload_n 0, 1) := by decide +kernel
theorem dX11_built_81 : decode cX11_built 81 = .ok (.getfield 68, 3) := by decide +kernel
theorem dX11_built_84 : decode cX11_built 84 = .ok (.iconst 5, 1) := by decide +kernel
theorem dX11_built_85 : decode cX11_built 85 = .ok (.invokevirtual 301, 3) := by decide +kernel
theorem dX11_built_88 : decode cX11_built 88 = .ok (.aload_n 0, 1) := by decide +kernel
theorem dX11_built_89 : decode cX11_built 89 = .ok (.getfield 68, 3) := by decide +kernel
theorem dX11_built_92 : decode cX11_built 92 = .ok (.bipush 6, 2) := by decide +kernel
theorem dX11_built_94 : decode cX11_built 94 = .ok (.invokevirtual 301, 3) := by decide +kernel
theorem dX11_built_97 : decode cX11_built 97 = .ok (.invokevirtual 311, 3) := by decide +kernel
theorem dX11_built_100 : decode cX11_built 100 = .ok (.iinc 4 1, 3) := by decide +kernel
theorem dX11_built_103 : decode cX11_built 103 = .ok (.goto (-82), 3) := by decide +kernel
theorem dX11_built_106 : decode cX11_built 106 = .ok (.aload_n 0, 1) := by decide +kernel
theorem dX11_built_107 : decode cX11_built 107 = .ok (.getfield 75, 3) := by decide +kernel
theorem dX11_built_110 : decode cX11_built 110 = .ok (.invokevirtual 315, 3) := by decide +kernel
theorem dX11_built_113 : decode cX11_built 113 = .ok (.aload_n 0, 1) := by decide +kernel
theorem dX11_built_114 : decode cX11_built 114 = .ok (.getfield 75, 3) := by decide +kernel
theorem dX11_built_117 : decode cX11_built 117 = .ok (.iload_n 3, 1) := by decide +kernel
theorem dX11_built_118 : decode cX11_built 118 = .ok (.invokevirtual 318, 3) := by decide +kernel
theorem dX11_built_121 : decode cX11_built 121 = .ok (.ireturn, 1) := by decide +kernel
theorem dX11_lean_0 : decode cX11_lean 0 = .ok (.aload_n 0, 1) := by decide +kernel
theorem dX11_lean_1 : decode cX11_lean 1 = .ok (.getfield 33, 3) := by decide +kernel
theorem dX11_lean_4 : decode cX11_lean 4 = .ok (.iload_n 1, 1) := by decide +kernel
theorem dX11_lean_5 : decode cX11_lean 5 = .ok (.invokevirtual 287, 3) := by decide +kernel
theorem dX11_lean_8 : decode cX11_lean 8 = .ok (.ifCond .eq 24, 3) := by decide +kernel
theorem dX11_lean_11 : decode cX11_lean 11 = .ok (.aload_n 0, 1) := by decide +kernel
theorem dX11_lean_12 : decode cX11_lean 12 = .ok (.getfield 82, 3) := by decide +kernel
theorem dX11_lean_15 : decode cX11_lean 15 = .ok (.iload_n 1, 1) := by decide +kernel
theorem dX11_lean_16 : decode cX11_lean 16 = .ok (.iload_n 2, 1) := by decide +kernel
theorem dX11_lean_17 : decode cX11_lean 17 = .ok (.iload_n 3, 1) := by decide +kernel
theorem dX11_lean_18 : decode cX11_lean 18 = .ok (.aload_n 0, 1) := by decide +kernel
theorem dX11_lean_19 : decode cX11_lean 19 = .ok (.getfield 98, 3) := by decide +kernel
theorem dX11_lean_22 : decode cX11_lean 22 = .ok (.invokevirtual 321, 3) := by decide +kernel
theorem dX11_lean_25 : decode cX11_lean 25 = .ok (.ifCond .eq 7, 3) := by decide +kernel
theorem dX11_lean_28 : decode cX11_lean 28 = .ok (.iconst 1, 1) := by decide +kernel
theorem dX11_lean_29 : decode cX11_lean 29 = .ok (.goto 4, 3) := by decide +kernel
theorem dX11_lean_32 : decode cX11_lean 32 = .ok (.iconst 0, 1) := by decide +kernel
theorem dX11_lean_33 : decode cX11_lean 33 = .ok (.ireturn, 1) := by decide +kernel
theorem dX11_leans_0 : decode cX11_leans 0 = .ok (.aload_n 0, 1) := by decide +kernel
theorem dX11_leans_1 : decode cX11_leans 1 = .ok (.iload_n 1, 1) := by decide +kernel
theorem dX11_leans_2 : decode cX11_leans 2 = .ok (.invokevirtual 176, 3) := by decide +kernel
theorem dX11_leans_5 : decode cX11_leans 5 = .ok (.ifCond .ne 7, 3) := by decide +kernel
theorem dX11_leans_8 : decode cX11_leans 8 = .ok (.sipush (-1000), 3) := by decide +kernel
theorem dX11_leans_11 : decode cX11_leans 11 = .ok (.ireturn, 1) := by decide +kernel
theorem dX11_leans_12 : decode cX11_leans 12 = .ok (.aload_n 0, 1) := by decide +kernel
theorem dX11_leans_13 : decode cX11_leans 13 = .ok (.getfield 82, 3) := by decide +kernel
theorem dX11_leans_16 : decode cX11_leans 16 = .ok (.iload_n 1, 1) := by decide +kernel
theorem dX11_leans_17 : decode cX11_leans 17 = .ok (.aload_n 0, 1) := by decide +kernel
theorem dX11_leans_18 : decode cX11_leans 18 = .ok (.invokevirtual 108, 3) := by decide +kernel
theorem dX11_leans_21 : decode cX11_leans 21 = .ok (.invokevirtual 324, 3) := by decide +kernel
theorem dX11_leans_24 : decode cX11_leans 24 = .ok (.aload_n 0, 1) := by decide +kernel
theorem dX11_leans_25 : decode cX11_leans 25 = .ok (.getfield 82, 3) := by decide +kernel
theorem dX11_leans_28 : decode cX11_leans 28 = .ok (.iload_n 2, 1) := by decide +kernel
theorem dX11_leans_29 : decode cX11_leans 29 = .ok (.invokevirtual 327, 3) := by decide +kernel
theorem dX11_leans_32 : decode cX11_leans 32 = .ok (.ireturn, 1) := by decide +kernel
theorem dX11_falls_0 : decode cX11_falls 0 = .ok (.aload_n 0, 1) := by decide +kernel
theorem dX11_falls_1 : decode cX11_falls 1 = .ok (.iload_n 1, 1) := by decide +kernel
theorem dX11_falls_2 : decode cX11_falls 2 = .ok (.invokevirtual 176, 3) := by decide +kernel
theorem dX11_falls_5 : decode cX11_falls 5 = .ok (.ifCond .eq 14, 3) := by decide +kernel
theorem dX11_falls_8 : decode cX11_falls 8 = .ok (.iload_n 2, 1) := by decide +kernel
theorem dX11_falls_9 : decode cX11_falls 9 = .ok (.ifCond .lt 10, 3) := by decide +kernel
theorem dX11_falls_12 : decode cX11_falls 12 = .ok (.iload_n 2, 1) := by decide +kernel
theorem dX11_falls_13 : decode cX11_falls 13 = .ok (.sipush 999, 3) := by decide +kernel
theorem dX11_falls_16 : decode cX11_falls 16 = .ok (.if_icmp .le 5, 3) := by decide +kernel
theorem dX11_falls_19 : decode cX11_falls 19 = .ok (.iconst (-1), 1) := by decide +kernel
theorem dX11_falls_20 : decode cX11_falls 20 = .ok (.ireturn, 1) := by decide +kernel
theorem dX11_falls_21 : decode cX11_falls 21 = .ok (.aload_n 0, 1) := by decide +kernel
theorem dX11_falls_22 : decode cX11_falls 22 = .ok (.getfield 82, 3) := by decide +kernel
theorem dX11_falls_25 : decode cX11_falls 25 = .ok (.iload_n 1, 1) := by decide +kernel
theorem dX11_falls_26 : decode cX11_falls 26 = .ok (.aload_n 0, 1) := by decide +kernel
theorem dX11_falls_27 : decode cX11_falls 27 = .ok (.invokevirtual 108, 3) := by decide +kernel
theorem dX11_falls_30 : decode cX11_falls 30 = .ok (.invokevirtual 324, 3) := by decide +kernel
theorem dX11_falls_33 : decode cX11_falls 33 = .ok (.aload_n 0, 1) := by decide +kernel
theorem dX11_falls_34 : decode cX11_falls 34 = .ok (.getfield 82, 3) := by decide +kernel
theorem dX11_falls_37 : decode cX11_falls 37 = .ok (.iload_n 2, 1) := by decide +kernel
theorem dX11_falls_38 : decode cX11_falls 38 = .ok (.invokevirtual 330, 3) := by decide +kernel
theorem dX11_falls_41 : decode cX11_falls 41 = .ok (.ireturn, 1) := by decide +kernel
theorem dX11_write_0 : decode cX11_write 0 = .ok (.aload_n 0, 1) := by decide +kernel
theorem dX11_write_1 : decode cX11_write 1 = .ok (.iload_n 1, 1) := by decide +kernel
theorem dX11_write_2 : decode cX11_write 2 = .ok (.invokevirtual 147, 3) := by decide +kernel
theorem dX11_write_5 : decode cX11_write 5 = .ok (.ifCond .ne 5, 3) := by decide +kernel
theorem dX11_write_8 : decode cX11_write 8 = .ok (.iconst (-1), 1) := by decide +kernel
theorem dX11_write_9 : decode cX11_write 9 = .ok (.ireturn, 1) := by decide +kernel
theorem dX11_write_10 : decode cX11_write 10 = .ok (.aload_n 0, 1) := by decide +kernel
theorem dX11_write_11 : decode cX11_write 11 = .ok (.invokevirtual 238, 3) := by decide +kernel
theorem dX11_write_14 : decode cX11_write 14 = .ok (.aload_n 0, 1) := by decide +kernel
theorem dX11_write_15 : decode cX11_write 15 = .ok (.iconst 0, 1) := by decide +kernel
theorem dX11_write_16 : decode cX11_write 16 = .ok (.putfield 90, 3) := by decide +kernel
theorem dX11_write_19 : decode cX11_write 19 = .ok (.iconst 0, 1) := by decide +kernel
theorem dX11_write_20 : decode cX11_write 20 = .ok (.istore_n 2, 1) := by decide +kernel
theorem dX11_write_21 : decode cX11_write 21 = .ok (.iload_n 2, 1) := by decide +kernel
theorem dX11_write_22 : decode cX11_write 22 = .ok (.bipush 48, 2) := by decide +kernel
theorem dX11_write_24 : decode cX11_write 24 = .ok (.if_icmp .ge 77, 3) := by decide +kernel
theorem dX11_write_27 : decode cX11_write 27 = .ok (.aload_n 0, 1) := by decide +kernel
theorem dX11_write_28 : decode cX11_write 28 = .ok (.getfield 47, 3) := by decide +kernel
theorem dX11_write_31 : decode cX11_write 31 = .ok (.iload_n 1, 1) := by decide +kernel
theorem dX11_write_32 : decode cX11_write 32 = .ok (.aaload, 1) := by decide +kernel
theorem dX11_write_33 : decode cX11_write 33 = .ok (.iload_n 2, 1) := by decide +kernel
theorem dX11_write_34 : decode cX11_write 34 = .ok (.invokevirtual 251, 3) := by decide +kernel
theorem dX11_write_37 : decode cX11_write 37 = .ok (.istore_n 3, 1) := by decide +kernel
theorem dX11_write_38 : decode cX11_write 38 = .ok (.iload_n 3, 1) := by decide +kernel
theorem dX11_write_39 : decode cX11_write 39 = .ok (.iconst (-1), 1) := by decide +kernel
theorem dX11_write_40 : decode cX11_write 40 = .ok (.if_icmp .eq 55, 3) := by decide +kernel
theorem dX11_write_43 : decode cX11_write 43 = .ok (.aload_n 0, 1) := by decide +kernel
theorem dX11_write_44 : decode cX11_write 44 = .ok (.getfield 33, 3) := by decide +kernel
theorem dX11_write_47 : decode cX11_write 47 = .ok (.iload_n 2, 1) := by decide +kernel
theorem dX11_write_48 : decode cX11_write 48 = .ok (.invokevirtual 210, 3) := by decide +kernel
theorem dX11_write_51 : decode cX11_write 51 = .ok (.ifCond .ne 44, 3) := by decide +kernel
theorem dX11_write_54 : decode cX11_write 54 = .ok (.aload_n 0, 1) := by decide +kernel
theorem dX11_write_55 : decode cX11_write 55 = .ok (.iload_n 2, 1) := by decide +kernel
theorem dX11_write_56 : decode cX11_write 56 = .ok (.invokevirtual 333, 3) := by decide +kernel
theorem dX11_write_59 : decode cX11_write 59 = .ok (.aload_n 0, 1) := by decide +kernel
theorem dX11_write_60 : decode cX11_write 60 = .ok (.bipush 45, 2) := by decide +kernel
theorem dX11_write_62 : decode cX11_write 62 = .ok (.invokevirtual 336, 3) := by decide +kernel
theorem dX11_write_65 : decode cX11_write 65 = .ok (.aload_n 0, 1) := by decide +kernel
theorem dX11_write_66 : decode cX11_write 66 = .ok (.iload_n 3, 1) := by decide +kernel
theorem dX11_write_67 : decode cX11_write 67 = .ok (.invokevirtual 333, 3) := by decide +kernel
theorem dX11_write_70 : decode cX11_write 70 = .ok (.aload_n 0, 1) := by decide +kernel
theorem dX11_write_71 : decode cX11_write 71 = .ok (.getfield 47, 3) := by decide +kernel
theorem dX11_write_74 : decode cX11_write 74 = .ok (.iload_n 1, 1) := by decide +kernel
theorem dX11_write_75 : decode cX11_write 75 = .ok (.aaload, 1) := by decide +kernel
theorem dX11_write_76 : decode cX11_write 76 = .ok (.iload_n 2, 1) := by decide +kernel
theorem dX11_write_77 : decode cX11_write 77 = .ok (.invokevirtual 254, 3) := by decide +kernel
theorem dX11_write_80 : decode cX11_write 80 = .ok (.ifCond .eq 9, 3) := by decide +kernel
theorem dX11_write_83 : decode cX11_write 83 = .ok (.aload_n 0, 1) := by decide +kernel
theorem dX11_write_84 : decode cX11_write 84 = .ok (.bipush 33, 2) := by decide +kernel
theorem dX11_write_86 : decode cX11_write 86 = .ok (.invokevirtual 336, 3) := by decide +kernel
theorem dX11_write_89 : decode cX11_write 89 = .ok (.aload_n 0, 1) := by decide +kernel
theorem dX11_write_90 : decode cX11_write 90 = .ok (.bipush 59, 2) := by decide +kernel
theorem dX11_write_92 : decode cX11_write 92 = .ok (.invokevirtual 336, 3) := by decide +kernel
theorem dX11_write_95 : decode cX11_write 95 = .ok (.iinc 2 1, 3) := by decide +kernel
theorem dX11_write_98 : decode cX11_write 98 = .ok (.goto (-77), 3) := by decide +kernel
theorem dX11_write_101 : decode cX11_write 101 = .ok (.aload_n 0, 1) := by decide +kernel
theorem dX11_write_102 : decode cX11_write 102 = .ok (.getfield 90, 3) := by decide +kernel
theorem dX11_write_105 : decode cX11_write 105 = .ok (.ireturn, 1) := by decide +kernel
theorem dX11_out_0 : decode cX11_out 0 = .ok (.iload_n 1, 1) := by decide +kernel
theorem dX11_out_1 : decode cX11_out 1 = .ok (.ifCond .lt 27, 3) := by decide +kernel
theorem dX11_out_4 : decode cX11_out 4 = .ok (.iload_n 1, 1) := by decide +kernel
theorem dX11_out_5 : decode cX11_out 5 = .ok (.aload_n 0, 1) := by decide +kernel
theorem dX11_out_6 : decode cX11_out 6 = .ok (.getfield 90, 3) := by decide +kernel
theorem dX11_out_9 : decode cX11_out 9 = .ok (.if_icmp .ge 19, 3) := by decide +kernel
theorem dX11_out_12 : decode cX11_out 12 = .ok (.iload_n 1, 1) := by decide +kernel
theorem dX11_out_13 : decode cX11_out 13 = .ok (.sipush 200, 3) := by decide +kernel
theorem dX11_out_16 : decode cX11_out 16 = .ok (.if_icmp .ge 12, 3) := by decide +kernel
theorem dX11_out_19 : decode cX11_out 19 = .ok (.aload_n 0, 1) := by decide +kernel
theorem dX11_out_20 : decode cX11_out 20 = .ok (.getfield 86, 3) := by decide +kernel
theorem dX11_out_23 : decode cX11_out 23 = .ok (.iload_n 1, 1) := by decide +kernel
theorem dX11_out_24 : decode cX11_out 24 = .ok (.iaload, 1) := by decide +kernel
theorem dX11_out_25 : decode cX11_out 25 = .ok (.goto 4, 3) := by decide +kernel
theorem dX11_out_28 : decode cX11_out 28 = .ok (.iconst (-1), 1) := by decide +kernel
theorem dX11_out_29 : decode cX11_out 29 = .ok (.ireturn, 1) := by decide +kernel
theorem dX11_putNumber_0 : decode cX11_putNumber 0 = .ok (.iload_n 1, 1) := by decide +kernel
theorem dX11_putNumber_1 : decode cX11_putNumber 1 = .ok (.bipush 10, 2) := by decide +kernel
theorem dX11_putNumber_3 : decode cX11_putNumber 3 = .ok (.if_icmp .lt 14, 3) := by decide +kernel
theorem dX11_putNumber_6 : decode cX11_putNumber 6 = .ok (.aload_n 0, 1) := by decide +kernel
theorem dX11_putNumber_7 : decode cX11_putNumber 7 = .ok (.bipush 48, 2) := by decide +kernel
theorem dX11_putNumber_9 : decode cX11_putNumber 9 = .ok (.iload_n 1, 1) := by decide +kernel
theorem dX11_putNumber_10 : decode cX11_putNumber 10 = .ok (.bipush 10, 2) := by decide +kernel
theorem dX11_putNumber_12 : decode cX11_putNumber 12 = .ok (.idiv, 1) := by decide +kernel
theorem dX11_putNumber_13 : decode cX11_putNumber 13 = .ok (.iadd, 1) := by decide +kernel
theorem dX11_putNumber_14 : decode cX11_putNumber 14 = .ok (.invokevirtual 336, 3) := by decide +kernel
theorem dX11_putNumber_17 : decode cX11_putNumber 17 = .ok (.aload_n 0, 1) := by decide +kernel
theorem dX11_putNumber_18 : decode cX11_putNumber 18 = .ok (.bipush 48, 2) := by decide +kernel
theorem dX11_putNumber_20 : decode cX11_putNumber 20 = .ok (.iload_n 1, 1) := by decide +kernel
theorem dX11_putNumber_21 : decode cX11_putNumber 21 = .ok (.bipush 10, 2) := by decide +kernel
theorem dX11_putNumber_23 : decode cX11_putNumber 23 = .ok (.irem, 1) := by decide +kernel
theorem dX11_putNumber_24 : decode cX11_putNumber 24 = .ok (.iadd, 1) := by decide +kernel
theorem dX11_putNumber_25 : decode cX11_putNumber 25 = .ok (.invokevirtual 336, 3) := by decide +kernel
theorem dX11_putNumber_28 : decode cX11_putNumber 28 = .ok (.return_, 1) := by decide +kernel
theorem dX11_putByte_0 : decode cX11_putByte 0 = .ok (.aload_n 0, 1) := by decide +kernel
theorem dX11_putByte_1 : decode cX11_putByte 1 = .ok (.getfield 90, 3) := by decide +kernel
theorem dX11_putByte_4 : decode cX11_putByte 4 = .ok (.sipush 200, 3) := by decide +kernel
theorem dX11_putByte_7 : decode cX11_putByte 7 = .ok (.if_icmp .ge 23, 3) := by decide +kernel
theorem dX11_putByte_10 : decode cX11_putByte 10 = .ok (.aload_n 0, 1) := by decide +kernel
theorem dX11_putByte_11 : decode cX11_putByte 11 = .ok (.getfield 86, 3) := by decide +kernel
theorem dX11_putByte_14 : decode cX11_putByte 14 = .ok (.aload_n 0, 1) := by decide +kernel
theorem dX11_putByte_15 : decode cX11_putByte 15 = .ok (.getfield 90, 3) := by decide +kernel
theorem dX11_putByte_18 : decode cX11_putByte 18 = .ok (.iload_n 1, 1) := by decide +kernel
theorem dX11_putByte_19 : decode cX11_putByte 19 = .ok (.iastore, 1) := by decide +kernel
theorem dX11_putByte_20 : decode cX11_putByte 20 = .ok (.aload_n 0, 1) := by decide +kernel
theorem dX11_putByte_21 : decode cX11_putByte 21 = .ok (.dup, 1) := by decide +kernel
theorem dX11_putByte_22 : decode cX11_putByte 22 = .ok (.getfield 90, 3) := by decide +kernel
theorem dX11_putByte_25 : decode cX11_putByte 25 = .ok (.iconst 1, 1) := by decide +kernel
theorem dX11_putByte_26 : decode cX11_putByte 26 = .ok (.iadd, 1) := by decide +kernel
theorem dX11_putByte_27 : decode cX11_putByte 27 = .ok (.putfield 90, 3) := by decide +kernel
theorem dX11_putByte_30 : decode cX11_putByte 30 = .ok (.return_, 1) := by decide +kernel
theorem dX11_lastDaySeen_0 : decode cX11_lastDaySeen 0 = .ok (.aload_n 0, 1) := by decide +kernel
theorem dX11_lastDaySeen_1 : decode cX11_lastDaySeen 1 = .ok (.getfield 101, 3) := by decide +kernel
theorem dX11_lastDaySeen_4 : decode cX11_lastDaySeen 4 = .ok (.iconst (-1), 1) := by decide +kernel
theorem dX11_lastDaySeen_5 : decode cX11_lastDaySeen 5 = .ok (.if_icmp .ne 9, 3) := by decide +kernel
theorem dX11_lastDaySeen_8 : decode cX11_lastDaySeen 8 = .ok (.sipush 9999, 3) := by decide +kernel
theorem dX11_lastDaySeen_11 : decode cX11_lastDaySeen 11 = .ok (.goto 7, 3) := by decide +kernel
theorem dX11_lastDaySeen_14 : decode cX11_lastDaySeen 14 = .ok (.aload_n 0, 1) := by decide +kernel
theorem dX11_lastDaySeen_15 : decode cX11_lastDaySeen 15 = .ok (.getfield 101, 3) := by decide +kernel
theorem dX11_lastDaySeen_18 : decode cX11_lastDaySeen 18 = .ok (.ireturn, 1) := by decide +kernel
theorem dX11_timbersSeen_0 : decode cX11_timbersSeen 0 = .ok (.aload_n 0, 1) := by decide +kernel
theorem dX11_timbersSeen_1 : decode cX11_timbersSeen 1 = .ok (.getfield 33, 3) := by decide +kernel
theorem dX11_timbersSeen_4 : decode cX11_timbersSeen 4 = .ok (.aload_n 0, 1) := by decide +kernel
theorem dX11_timbersSeen_5 : decode cX11_timbersSeen 5 = .ok (.invokevirtual 108, 3) := by decide +kernel
theorem dX11_timbersSeen_8 : decode cX11_timbersSeen 8 = .ok (.invokevirtual 339, 3) := by decide +kernel
theorem dX11_timbersSeen_11 : decode cX11_timbersSeen 11 = .ok (.ireturn, 1) := by decide +kernel
theorem dX11_jointsSeen_0 : decode cX11_jointsSeen 0 = .ok (.aload_n 0, 1) := by decide +kernel
theorem dX11_jointsSeen_1 : decode cX11_jointsSeen 1 = .ok (.getfield 33, 3) := by decide +kernel
theorem dX11_jointsSeen_4 : decode cX11_jointsSeen 4 = .ok (.aload_n 0, 1) := by decide +kernel
theorem dX11_jointsSeen_5 : decode cX11_jointsSeen 5 = .ok (.invokevirtual 108, 3) := by decide +kernel
theorem dX11_jointsSeen_8 : decode cX11_jointsSeen 8 = .ok (.invokevirtual 342, 3) := by decide +kernel
theorem dX11_jointsSeen_11 : decode cX11_jointsSeen 11 = .ok (.ireturn, 1) := by decide +kernel
theorem dX11_isCustom_0 : decode cX11_isCustom 0 = .ok (.iload_n 1, 1) := by decide +kernel
theorem dX11_isCustom_1 : decode cX11_isCustom 1 = .ok (.ifCond .eq 8, 3) := by decide +kernel
theorem dX11_isCustom_4 : decode cX11_isCustom 4 = .ok (.iload_n 1, 1) := by decide +kernel
theorem dX11_isCustom_5 : decode cX11_isCustom 5 = .ok (.iconst 1, 1) := by decide +kernel
theorem dX11_isCustom_6 : decode cX11_isCustom 6 = .ok (.if_icmp .ne 7, 3) := by decide +kernel
theorem dX11_isCustom_9 : decode cX11_isCustom 9 = .ok (.iconst 1, 1) := by decide +kernel
theorem dX11_isCustom_10 : decode cX11_isCustom 10 = .ok (.goto 4, 3) := by decide +kernel
theorem dX11_isCustom_13 : decode cX11_isCustom 13 = .ok (.iconst 0, 1) := by decide +kernel
theorem dX11_isCustom_14 : decode cX11_isCustom 14 = .ok (.ireturn, 1) := by decide +kernel
theorem dX11_isTimber_0 : decode cX11_isTimber 0 = .ok (.iload_n 1, 1) := by decide +kernel
theorem dX11_isTimber_1 : decode cX11_isTimber 1 = .ok (.ifCond .lt 15, 3) := by decide +kernel
theorem dX11_isTimber_4 : decode cX11_isTimber 4 = .ok (.iload_n 1, 1) := by decide +kernel
theorem dX11_isTimber_5 : decode cX11_isTimber 5 = .ok (.aload_n 0, 1) := by decide +kernel
theorem dX11_isTimber_6 : decode cX11_isTimber 6 = .ok (.invokevirtual 160, 3) := by decide +kernel
theorem dX11_isTimber_9 : decode cX11_isTimber 9 = .ok (.if_icmp .ge 7, 3) := by decide +kernel
theorem dX11_isTimber_12 : decode cX11_isTimber 12 = .ok (.iconst 1, 1) := by decide +kernel
theorem dX11_isTimber_13 : decode cX11_isTimber 13 = .ok (.goto 4, 3) := by decide +kernel
theorem dX11_isTimber_16 : decode cX11_isTimber 16 = .ok (.iconst 0, 1) := by decide +kernel
theorem dX11_isTimber_17 : decode cX11_isTimber 17 = .ok (.ireturn, 1) := by decide +kernel
theorem dX11_isJoint_0 : decode cX11_isJoint 0 = .ok (.iload_n 1, 1) := by decide +kernel
theorem dX11_isJoint_1 : decode cX11_isJoint 1 = .ok (.ifCond .lt 15, 3) := by decide +kernel
theorem dX11_isJoint_4 : decode cX11_isJoint 4 = .ok (.iload_n 1, 1) := by decide +kernel
theorem dX11_isJoint_5 : decode cX11_isJoint 5 = .ok (.aload_n 0, 1) := by decide +kernel
theorem dX11_isJoint_6 : decode cX11_isJoint 6 = .ok (.invokevirtual 163, 3) := by decide +kernel
theorem dX11_isJoint_9 : decode cX11_isJoint 9 = .ok (.if_icmp .ge 7, 3) := by decide +kernel
theorem dX11_isJoint_12 : decode cX11_isJoint 12 = .ok (.iconst 1, 1) := by decide +kernel
theorem dX11_isJoint_13 : decode cX11_isJoint 13 = .ok (.goto 4, 3) := by decide +kernel
theorem dX11_isJoint_16 : decode cX11_isJoint 16 = .ok (.iconst 0, 1) := by decide +kernel
theorem dX11_isJoint_17 : decode cX11_isJoint 17 = .ok (.ireturn, 1) := by decide +kernel
theorem dX11_isFrame_0 : decode cX11_isFrame 0 = .ok (.aload_n 0, 1) := by decide +kernel
theorem dX11_isFrame_1 : decode cX11_isFrame 1 = .ok (.iload_n 1, 1) := by decide +kernel
theorem dX11_isFrame_2 : decode cX11_isFrame 2 = .ok (.invokevirtual 147, 3) := by decide +kernel
theorem dX11_isFrame_5 : decode cX11_isFrame 5 = .ok (.ifCond .ne 5, 3) := by decide +kernel
theorem dX11_isFrame_8 : decode cX11_isFrame 8 = .ok (.iconst 0, 1) := by decide +kernel
theorem dX11_isFrame_9 : decode cX11_isFrame 9 = .ok (.ireturn, 1) := by decide +kernel
theorem dX11_isFrame_10 : decode cX11_isFrame 10 = .ok (.aload_n 0, 1) := by decide +kernel
theorem dX11_isFrame_11 : decode cX11_isFrame 11 = .ok (.invokevirtual 238, 3) := by decide +kernel
theorem dX11_isFrame_14 : decode cX11_isFrame 14 = .ok (.iload_n 2, 1) := by decide +kernel
theorem dX11_isFrame_15 : decode cX11_isFrame 15 = .ok (.ifCond .lt 20, 3) := by decide +kernel
theorem dX11_isFrame_18 : decode cX11_isFrame 18 = .ok (.iload_n 2, 1) := by decide +kernel
theorem dX11_isFrame_19 : decode cX11_isFrame 19 = .ok (.aload_n 0, 1) := by decide +kernel
theorem dX11_isFrame_20 : decode cX11_isFrame 20 = .ok (.getfield 54, 3) := by decide +kernel
theorem dX11_isFrame_23 : decode cX11_isFrame 23 = .ok (.iload_n 1, 1) := by decide +kernel
theorem dX11_isFrame_24 : decode cX11_isFrame 24 = .ok (.aaload, 1) := by decide +kernel
theorem dX11_isFrame_25 : decode cX11_isFrame 25 = .ok (.invokevirtual 250, 3) := by decide +kernel
theorem dX11_isFrame_28 : decode cX11_isFrame 28 = .ok (.if_icmp .ge 7, 3) := by decide +kernel
theorem dX11_isFrame_31 : decode cX11_isFrame 31 = .ok (.iconst 1, 1) := by decide +kernel
theorem dX11_isFrame_32 : decode cX11_isFrame 32 = .ok (.goto 4, 3) := by decide +kernel
theorem dX11_isFrame_35 : decode cX11_isFrame 35 = .ok (.iconst 0, 1) := by decide +kernel
theorem dX11_isFrame_36 : decode cX11_isFrame 36 = .ok (.ireturn, 1) := by decide +kernel
theorem dX11_agreeInNumbers_0 : decode cX11_agreeInNumbers 0 = .ok (.aload_n 0, 1) := by decide +kernel
theorem dX11_agreeInNumbers_1 : decode cX11_agreeInNumbers 1 = .ok (.getfield 40, 3) := by decide +kernel
theorem dX11_agreeInNumbers_4 : decode cX11_agreeInNumbers 4 = .ok (.iload_n 2, 1) := by decide +kernel
theorem dX11_agreeInNumbers_5 : decode cX11_agreeInNumbers 5 = .ok (.aload_n 1, 1) := by decide +kernel
theorem dX11_agreeInNumbers_6 : decode cX11_agreeInNumbers 6 = .ok (.invokevirtual 225, 3) := by decide +kernel
theorem dX11_agreeInNumbers_9 : decode cX11_agreeInNumbers 9 = .ok (.aload_n 0, 1) := by decide +kernel
theorem dX11_agreeInNumbers_10 : decode cX11_agreeInNumbers 10 = .ok (.getfield 40, 3) := by decide +kernel
theorem dX11_agreeInNumbers_13 : decode cX11_agreeInNumbers 13 = .ok (.iload_n 3, 1) := by decide +kernel
theorem dX11_agreeInNumbers_14 : decode cX11_agreeInNumbers 14 = .ok (.aload_n 1, 1) := by decide +kernel
theorem dX11_agreeInNumbers_15 : decode cX11_agreeInNumbers 15 = .ok (.invokevirtual 225, 3) := by decide +kernel
theorem dX11_agreeInNumbers_18 : decode cX11_agreeInNumbers 18 = .ok (.land, 1) := by decide +kernel
theorem dX11_agreeInNumbers_19 : decode cX11_agreeInNumbers 19 = .ok (.lconst 0, 1) := by decide +kernel
theorem dX11_agreeInNumbers_20 : decode cX11_agreeInNumbers 20 = .ok (.lcmp, 1) := by decide +kernel
theorem dX11_agreeInNumbers_21 : decode cX11_agreeInNumbers 21 = .ok (.ifCond .eq 7, 3) := by decide +kernel
theorem dX11_agreeInNumbers_24 : decode cX11_agreeInNumbers 24 = .ok (.iconst 1, 1) := by decide +kernel
theorem dX11_agreeInNumbers_25 : decode cX11_agreeInNumbers 25 = .ok (.goto 4, 3) := by decide +kernel
theorem dX11_agreeInNumbers_28 : decode cX11_agreeInNumbers 28 = .ok (.iconst 0, 1) := by decide +kernel
theorem dX11_agreeInNumbers_29 : decode cX11_agreeInNumbers 29 = .ok (.ireturn, 1) := by decide +kernel
theorem dX11_canFit_0 : decode cX11_canFit 0 = .ok (.aload_n 0, 1) := by decide +kernel
theorem dX11_canFit_1 : decode cX11_canFit 1 = .ok (.getfield 33, 3) := by decide +kernel
theorem dX11_canFit_4 : decode cX11_canFit 4 = .ok (.iload_n 2, 1) := by decide +kernel
theorem dX11_canFit_5 : decode cX11_canFit 5 = .ok (.invokevirtual 204, 3) := by decide +kernel
theorem dX11_canFit_8 : decode cX11_canFit 8 = .ok (.istore 4, 2) := by decide +kernel
theorem dX11_canFit_10 : decode cX11_canFit 10 = .ok (.aload_n 0, 1) := by decide +kernel
theorem dX11_canFit_11 : decode cX11_canFit 11 = .ok (.getfield 33, 3) := by decide +kernel
theorem dX11_canFit_14 : decode cX11_canFit 14 = .ok (.iload_n 3, 1) := by decide +kernel
theorem dX11_canFit_15 : decode cX11_canFit 15 = .ok (.invokevirtual 204, 3) := by decide +kernel
theorem dX11_canFit_18 : decode cX11_canFit 18 = .ok (.istore 5, 2) := by decide +kernel
theorem dX11_canFit_20 : decode cX11_canFit 20 = .ok (.aload_n 0, 1) := by decide +kernel
theorem dX11_canFit_21 : decode cX11_canFit 21 = .ok (.getfield 33, 3) := by decide +kernel
theorem dX11_canFit_24 : decode cX11_canFit 24 = .ok (.iload_n 3, 1) := by decide +kernel
theorem dX11_canFit_25 : decode cX11_canFit 25 = .ok (.invokevirtual 213, 3) := by decide +kernel
theorem dX11_canFit_28 : decode cX11_canFit 28 = .ok (.aload_n 0, 1) := by decide +kernel
theorem dX11_canFit_29 : decode cX11_canFit 29 = .ok (.getfield 33, 3) := by decide +kernel
theorem dX11_canFit_32 : decode cX11_canFit 32 = .ok (.iload_n 2, 1) := by decide +kernel
theorem dX11_canFit_33 : decode cX11_canFit 33 = .ok (.invokevirtual 213, 3) := by decide +kernel
theorem dX11_canFit_36 : decode cX11_canFit 36 = .ok (.isub, 1) := by decide +kernel
theorem dX11_canFit_37 : decode cX11_canFit 37 = .ok (.istore 6, 2) := by decide +kernel
theorem dX11_canFit_39 : decode cX11_canFit 39 = .ok (.iload 4, 2) := by decide +kernel
theorem dX11_canFit_41 : decode cX11_canFit 41 = .ok (.iload 5, 2) := by decide +kernel
theorem dX11_canFit_43 : decode cX11_canFit 43 = .ok (.if_icmp .eq 17, 3) := by decide +kernel
theorem dX11_canFit_46 : decode cX11_canFit 46 = .ok (.iload 6, 2) := by decide +kernel
theorem dX11_canFit_48 : decode cX11_canFit 48 = .ok (.ifCond .lt 12, 3) := by decide +kernel
theorem dX11_canFit_51 : decode cX11_canFit 51 = .ok (.iload 6, 2) := by decide +kernel
theorem dX11_canFit_53 : decode cX11_canFit 53 = .ok (.aload_n 1, 1) := by decide +kernel
theorem dX11_canFit_54 : decode cX11_canFit 54 = .ok (.getfield 345, 3) := by decide +kernel
theorem dX11_canFit_57 : decode cX11_canFit 57 = .ok (.if_icmp .le 5, 3) := by decide +kernel
theorem dX11_canFit_60 : decode cX11_canFit 60 = .ok (.iconst 0, 1) := by decide +kernel
theorem dX11_canFit_61 : decode cX11_canFit 61 = .ok (.ireturn, 1) := by decide +kernel
theorem dX11_canFit_62 : decode cX11_canFit 62 = .ok (.aload_n 1, 1) := by decide +kernel
theorem dX11_canFit_63 : decode cX11_canFit 63 = .ok (.aload_n 0, 1) := by decide +kernel
theorem dX11_canFit_64 : decode cX11_canFit 64 = .ok (.getfield 33, 3) := by decide +kernel
theorem dX11_canFit_67 : decode cX11_canFit 67 = .ok (.iload 4, 2) := by decide +kernel
theorem dX11_canFit_69 : decode cX11_canFit 69 = .ok (.invokevirtual 179, 3) := by decide +kernel
theorem dX11_canFit_72 : decode cX11_canFit 72 = .ok (.aload_n 0, 1) := by decide +kernel
theorem dX11_canFit_73 : decode cX11_canFit 73 = .ok (.getfield 33, 3) := by decide +kernel
theorem dX11_canFit_76 : decode cX11_canFit 76 = .ok (.iload 5, 2) := by decide +kernel
theorem dX11_canFit_78 : decode cX11_canFit 78 = .ok (.invokevirtual 179, 3) := by decide +kernel
theorem dX11_canFit_81 : decode cX11_canFit 81 = .ok (.invokevirtual 348, 3) := by decide +kernel
theorem dX11_canFit_84 : decode cX11_canFit 84 = .ok (.ifCond .ne 5, 3) := by decide +kernel
theorem dX11_canFit_87 : decode cX11_canFit 87 = .ok (.iconst 0, 1) := by decide +kernel
theorem dX11_canFit_88 : decode cX11_canFit 88 = .ok (.ireturn, 1) := by decide +kernel
theorem dX11_canFit_89 : decode cX11_canFit 89 = .ok (.aload_n 0, 1) := by decide +kernel
theorem dX11_canFit_90 : decode cX11_canFit 90 = .ok (.getfield 40, 3) := by decide +kernel
theorem dX11_canFit_93 : decode cX11_canFit 93 = .ok (.iload_n 2, 1) := by decide +kernel
theorem dX11_canFit_94 : decode cX11_canFit 94 = .ok (.invokevirtual 216, 3) := by decide +kernel
theorem dX11_canFit_97 : decode cX11_canFit 97 = .ok (.ifCond .eq 33, 3) := by decide +kernel
theorem dX11_canFit_100 : decode cX11_canFit 100 = .ok (.aload_n 0, 1) := by decide +kernel
theorem dX11_canFit_101 : decode cX11_canFit 101 = .ok (.getfield 40, 3) := by decide +kernel
theorem dX11_canFit_104 : decode cX11_canFit 104 = .ok (.iload_n 3, 1) := by decide +kernel
theorem dX11_canFit_105 : decode cX11_canFit 105 = .ok (.invokevirtual 216, 3) := by decide +kernel
theorem dX11_canFit_108 : decode cX11_canFit 108 = .ok (.ifCond .eq 22, 3) := by decide +kernel
theorem dX11_canFit_111 : decode cX11_canFit 111 = .ok (.aload_n 0, 1) := by decide +kernel
theorem dX11_canFit_112 : decode cX11_canFit 112 = .ok (.getfield 40, 3) := by decide +kernel
theorem dX11_canFit_115 : decode cX11_canFit 115 = .ok (.iload_n 2, 1) := by decide +kernel
theorem dX11_canFit_116 : decode cX11_canFit 116 = .ok (.invokevirtual 219, 3) := by decide +kernel
theorem dX11_canFit_119 : decode cX11_canFit 119 = .ok (.aload_n 0, 1) := by decide +kernel
theorem dX11_canFit_120 : decode cX11_canFit 120 = .ok (.getfield 40, 3) := by decide +kernel
theorem dX11_canFit_123 : decode cX11_canFit 123 = .ok (.iload_n 3, 1) := by decide +kernel
theorem dX11_canFit_124 : decode cX11_canFit 124 = .ok (.invokevirtual 219, 3) := by decide +kernel
theorem dX11_canFit_127 : decode cX11_canFit 127 = .ok (.if_icmp .ne 7, 3) := by decide +kernel
theorem dX11_canFit_130 : decode cX11_canFit 130 = .ok (.iconst 1, 1) := by decide +kernel
theorem dX11_canFit_131 : decode cX11_canFit 131 = .ok (.goto 4, 3) := by decide +kernel
theorem dX11_canFit_134 : decode cX11_canFit 134 = .ok (.iconst 0, 1) := by decide +kernel
theorem dX11_canFit_135 : decode cX11_canFit 135 = .ok (.ireturn, 1) := by decide +kernel
theorem dX11_refresh_0 : decode cX11_refresh 0 = .ok (.aload_n 0, 1) := by decide +kernel
theorem dX11_refresh_1 : decode cX11_refresh 1 = .ok (.getfield 104, 3) := by decide +kernel
theorem dX11_refresh_4 : decode cX11_refresh 4 = .ok (.ifCond .ne 4, 3) := by decide +kernel
theorem dX11_refresh_7 : decode cX11_refresh 7 = .ok (.return_, 1) := by decide +kernel
theorem dX11_refresh_8 : decode cX11_refresh 8 = .ok (.aload_n 0, 1) := by decide +kernel
theorem dX11_refresh_9 : decode cX11_refresh 9 = .ok (.iconst 0, 1) := by decide +kernel
theorem dX11_refresh_10 : decode cX11_refresh 10 = .ok (.putfield 104, 3) := by decide +kernel
theorem dX11_refresh_13 : decode cX11_refresh 13 = .ok (.aload_n 0, 1) := by decide +kernel
theorem dX11_refresh_14 : decode cX11_refresh 14 = .ok (.invokevirtual 163, 3) := by decide +kernel
theorem dX11_refresh_17 : decode cX11_refresh 17 = .ok (.istore_n 1, 1) := by decide +kernel
theorem dX11_refresh_18 : decode cX11_refresh 18 = .ok (.aload_n 0, 1) := by decide +kernel
theorem dX11_refresh_19 : decode cX11_refresh 19 = .ok (.getfield 47, 3) := by decide +kernel
theorem dX11_refresh_22 : decode cX11_refresh 22 = .ok (.iconst 0, 1) := by decide +kernel
theorem dX11_refresh_23 : decode cX11_refresh 23 = .ok (.aaload, 1) := by decide +kernel
theorem dX11_refresh_24 : decode cX11_refresh 24 = .ok (.invokevirtual 351, 3) := by decide +kernel
theorem dX11_refresh_27 : decode cX11_refresh 27 = .ok (.aload_n 0, 1) := by decide +kernel
theorem dX11_refresh_28 : decode cX11_refresh 28 = .ok (.getfield 47, 3) := by decide +kernel
theorem dX11_refresh_31 : decode cX11_refresh 31 = .ok (.iconst 1, 1) := by decide +kernel
theorem dX11_refresh_32 : decode cX11_refresh 32 = .ok (.aaload, 1) := by decide +kernel
theorem dX11_refresh_33 : decode cX11_refresh 33 = .ok (.invokevirtual 351, 3) := by decide +kernel
theorem dX11_refresh_36 : decode cX11_refresh 36 = .ok (.iconst 0, 1) := by decide +kernel
theorem dX11_refresh_37 : decode cX11_refresh 37 = .ok (.istore_n 2, 1) := by decide +kernel
theorem dX11_refresh_38 : decode cX11_refresh 38 = .ok (.iload_n 2, 1) := by decide +kernel
theorem dX11_refresh_39 : decode cX11_refresh 39 = .ok (.iconst 2, 1) := by decide +kernel
theorem dX11_refresh_40 : decode cX11_refresh 40 = .ok (.if_icmp .ge 84, 3) := by decide +kernel
theorem dX11_refresh_43 : decode cX11_refresh 43 = .ok (.aload_n 0, 1) := by decide +kernel
theorem dX11_refresh_44 : decode cX11_refresh 44 = .ok (.getfield 47, 3) := by decide +kernel
theorem dX11_refresh_47 : decode cX11_refresh 47 = .ok (.iload_n 2, 1) := by decide +kernel
theorem dX11_refresh_48 : decode cX11_refresh 48 = .ok (.aaload, 1) := by decide +kernel
theorem dX11_refresh_49 : decode cX11_refresh 49 = .ok (.astore_n 3, 1) := by decide +kernel
theorem dX11_refresh_50 : decode cX11_refresh 50 = .ok (.iconst 0, 1) := by decide +kernel
theorem dX11_refresh_51 : decode cX11_refresh 51 = .ok (.istore 4, 2) := by decide +kernel
theorem dX11_refresh_53 : decode cX11_refresh 53 = .ok (.iload 4, 2) := by decide +kernel
theorem dX11_refresh_55 : decode cX11_refresh 55 = .ok (.iload_n 1, 1) := by decide +kernel
theorem dX11_refresh_56 : decode cX11_refresh 56 = .ok (.if_icmp .ge 30, 3) := by decide +kernel
theorem dX11_refresh_59 : decode cX11_refresh 59 = .ok (.aload_n 3, 1) := by decide +kernel
theorem dX11_refresh_60 : decode cX11_refresh 60 = .ok (.iload 4, 2) := by decide +kernel
theorem dX11_refresh_62 : decode cX11_refresh 62 = .ok (.aload_n 0, 1) := by decide +kernel
theorem dX11_refresh_63 : decode cX11_refresh 63 = .ok (.getfield 40, 3) := by decide +kernel
theorem dX11_refresh_66 : decode cX11_refresh 66 = .ok (.iload 4, 2) := by decide +kernel
theorem dX11_refresh_68 : decode cX11_refresh 68 = .ok (.aload_n 0, 1) := by decide +kernel
theorem dX11_refresh_69 : decode cX11_refresh 69 = .ok (.getfield 26, 3) := by decide +kernel
theorem dX11_refresh_72 : decode cX11_refresh 72 = .ok (.iload_n 2, 1) := by decide +kernel
theorem dX11_refresh_73 : decode cX11_refresh 73 = .ok (.aaload, 1) := by decide +kernel
theorem dX11_refresh_74 : decode cX11_refresh 74 = .ok (.invokevirtual 225, 3) := by decide +kernel
theorem dX11_refresh_77 : decode cX11_refresh 77 = .ok (.invokevirtual 352, 3) := by decide +kernel
theorem dX11_refresh_80 : decode cX11_refresh 80 = .ok (.iinc 4 1, 3) := by decide +kernel
theorem dX11_refresh_83 : decode cX11_refresh 83 = .ok (.goto (-30), 3) := by decide +kernel
theorem dX11_refresh_86 : decode cX11_refresh 86 = .ok (.aload_n 0, 1) := by decide +kernel
theorem dX11_refresh_87 : decode cX11_refresh 87 = .ok (.iload_n 2, 1) := by decide +kernel
theorem dX11_refresh_88 : decode cX11_refresh 88 = .ok (.iload_n 1, 1) := by decide +kernel
theorem dX11_refresh_89 : decode cX11_refresh 89 = .ok (.invokevirtual 356, 3) := by decide +kernel
theorem dX11_refresh_92 : decode cX11_refresh 92 = .ok (.aload_n 3, 1) := by decide +kernel
theorem dX11_refresh_93 : decode cX11_refresh 93 = .ok (.invokevirtual 359, 3) := by decide +kernel
theorem dX11_refresh_96 : decode cX11_refresh 96 = .ok (.aload_n 3, 1) := by decide +kernel
theorem dX11_refresh_97 : decode cX11_refresh 97 = .ok (.invokevirtual 362, 3) := by decide +kernel
theorem dX11_refresh_100 : decode cX11_refresh 100 = .ok (.aload_n 3, 1) := by decide +kernel
theorem dX11_refresh_101 : decode cX11_refresh 101 = .ok (.invokevirtual 365, 3) := by decide +kernel
theorem dX11_refresh_104 : decode cX11_refresh 104 = .ok (.aload_n 0, 1) := by decide +kernel
theorem dX11_refresh_105 : decode cX11_refresh 105 = .ok (.getfield 54, 3) := by decide +kernel
theorem dX11_refresh_108 : decode cX11_refresh 108 = .ok (.iload_n 2, 1) := by decide +kernel
theorem dX11_refresh_109 : decode cX11_refresh 109 = .ok (.aaload, 1) := by decide +kernel
theorem dX11_refresh_110 : decode cX11_refresh 110 = .ok (.aload_n 3, 1) := by decide +kernel
theorem dX11_refresh_111 : decode cX11_refresh 111 = .ok (.aload_n 0, 1) := by decide +kernel
theorem dX11_refresh_112 : decode cX11_refresh 112 = .ok (.getfield 33, 3) := by decide +kernel
theorem dX11_refresh_115 : decode cX11_refresh 115 = .ok (.invokevirtual 368, 3) := by decide +kernel
theorem dX11_refresh_118 : decode cX11_refresh 118 = .ok (.iinc 2 1, 3) := by decide +kernel
theorem dX11_refresh_121 : decode cX11_refresh 121 = .ok (.goto (-83), 3) := by decide +kernel
theorem dX11_refresh_124 : decode cX11_refresh 124 = .ok (.return_, 1) := by decide +kernel
theorem dX11_addFits_0 : decode cX11_addFits 0 = .ok (.aload_n 0, 1) := by decide +kernel
theorem dX11_addFits_1 : decode cX11_addFits 1 = .ok (.getfield 47, 3) := by decide +kernel
theorem dX11_addFits_4 : decode cX11_addFits 4 = .ok (.iload_n 1, 1) := by decide +kernel
theorem dX11_addFits_5 : decode cX11_addFits 5 = .ok (.aaload, 1) := by decide +kernel
theorem dX11_addFits_6 : decode cX11_addFits 6 = .ok (.astore_n 3, 1) := by decide +kernel
theorem dX11_addFits_7 : decode cX11_addFits 7 = .ok (.iconst 0, 1) := by decide +kernel
theorem dX11_addFits_8 : decode cX11_addFits 8 = .ok (.istore 4, 2) := by decide +kernel
theorem dX11_addFits_10 : decode cX11_addFits 10 = .ok (.iload 4, 2) := by decide +kernel
theorem dX11_addFits_12 : decode cX11_addFits 12 = .ok (.iload_n 2, 1) := by decide +kernel
theorem dX11_addFits_13 : decode cX11_addFits 13 = .ok (.if_icmp .ge 137, 3) := by decide +kernel
theorem dX11_addFits_16 : decode cX11_addFits 16 = .ok (.aload_n 0, 1) := by decide +kernel
theorem dX11_addFits_17 : decode cX11_addFits 17 = .ok (.getfield 33, 3) := by decide +kernel
theorem dX11_addFits_20 : decode cX11_addFits 20 = .ok (.iload 4, 2) := by decide +kernel
theorem dX11_addFits_22 : decode cX11_addFits 22 = .ok (.invokevirtual 210, 3) := by decide +kernel
theorem dX11_addFits_25 : decode cX11_addFits 25 = .ok (.ifCond .ne 119, 3) := by decide +kernel
theorem dX11_addFits_28 : decode cX11_addFits 28 = .ok (.aload_n 0, 1) := by decide +kernel
theorem dX11_addFits_29 : decode cX11_addFits 29 = .ok (.getfield 47, 3) := by decide +kernel
theorem dX11_addFits_32 : decode cX11_addFits 32 = .ok (.iconst 0, 1) := by decide +kernel
theorem dX11_addFits_33 : decode cX11_addFits 33 = .ok (.aaload, 1) := by decide +kernel
theorem dX11_addFits_34 : decode cX11_addFits 34 = .ok (.iload 4, 2) := by decide +kernel
theorem dX11_addFits_36 : decode cX11_addFits 36 = .ok (.invokevirtual 251, 3) := by decide +kernel
theorem dX11_addFits_39 : decode cX11_addFits 39 = .ok (.iconst (-1), 1) := by decide +kernel
theorem dX11_addFits_40 : decode cX11_addFits 40 = .ok (.if_icmp .eq 6, 3) := by decide +kernel
theorem dX11_addFits_43 : decode cX11_addFits 43 = .ok (.goto 101, 3) := by decide +kernel
theorem dX11_addFits_46 : decode cX11_addFits 46 = .ok (.iconst 0, 1) := by decide +kernel
theorem dX11_addFits_47 : decode cX11_addFits 47 = .ok (.istore 5, 2) := by decide +kernel
theorem dX11_addFits_49 : decode cX11_addFits 49 = .ok (.iload 5, 2) := by decide +kernel
theorem dX11_addFits_51 : decode cX11_addFits 51 = .ok (.iload_n 2, 1) := by decide +kernel
theorem dX11_addFits_52 : decode cX11_addFits 52 = .ok (.if_icmp .ge 92, 3) := by decide +kernel
theorem dX11_addFits_55 : decode cX11_addFits 55 = .ok (.aload_n 0, 1) := by decide +kernel
theorem dX11_addFits_56 : decode cX11_addFits 56 = .ok (.getfield 33, 3) := by decide +kernel
theorem dX11_addFits_59 : decode cX11_addFits 59 = .ok (.iload 5, 2) := by decide +kernel
theorem dX11_addFits_61 : decode cX11_addFits 61 = .ok (.invokevirtual 210, 3) := by decide +kernel
theorem dX11_addFits_64 : decode cX11_addFits 64 = .ok (.iconst 1, 1) := by decide +kernel
theorem dX11_addFits_65 : decode cX11_addFits 65 = .ok (.if_icmp .ne 73, 3) := by decide +kernel
theorem dX11_addFits_68 : decode cX11_addFits 68 = .ok (.aload_n 0, 1) := by decide +kernel
theorem dX11_addFits_69 : decode cX11_addFits 69 = .ok (.getfield 47, 3) := by decide +kernel
theorem dX11_addFits_72 : decode cX11_addFits 72 = .ok (.iconst 0, 1) := by decide +kernel
theorem dX11_addFits_73 : decode cX11_addFits 73 = .ok (.aaload, 1) := by decide +kernel
theorem dX11_addFits_74 : decode cX11_addFits 74 = .ok (.iload 5, 2) := by decide +kernel
theorem dX11_addFits_76 : decode cX11_addFits 76 = .ok (.invokevirtual 251, 3) := by decide +kernel
theorem dX11_addFits_79 : decode cX11_addFits 79 = .ok (.iconst (-1), 1) := by decide +kernel
theorem dX11_addFits_80 : decode cX11_addFits 80 = .ok (.if_icmp .ne 58, 3) := by decide +kernel
theorem dX11_addFits_83 : decode cX11_addFits 83 = .ok (.aload_n 3, 1) := by decide +kernel
theorem dX11_addFits_84 : decode cX11_addFits 84 = .ok (.iload 4, 2) := by decide +kernel
theorem dX11_addFits_86 : decode cX11_addFits 86 = .ok (.iload 5, 2) := by decide +kernel
theorem dX11_addFits_88 : decode cX11_addFits 88 = .ok (.invokevirtual 372, 3) := by decide +kernel
theorem dX11_addFits_91 : decode cX11_addFits 91 = .ok (.ifCond .eq 47, 3) := by decide +kernel
theorem dX11_addFits_94 : decode cX11_addFits 94 = .ok (.aload_n 0, 1) := by decide +kernel
theorem dX11_addFits_95 : decode cX11_addFits 95 = .ok (.aload_n 0, 1) := by decide +kernel
theorem dX11_addFits_96 : decode cX11_addFits 96 = .ok (.getfield 26, 3) := by decide +kernel
theorem dX11_addFits_99 : decode cX11_addFits 99 = .ok (.iload_n 1, 1) := by decide +kernel
theorem dX11_addFits_100 : decode cX11_addFits 100 = .ok (.aaload, 1) := by decide +kernel
theorem dX11_addFits_101 : decode cX11_addFits 101 = .ok (.iload 4, 2) := by decide +kernel
theorem dX11_addFits_103 : decode cX11_addFits 103 = .ok (.iload 5, 2) := by decide +kernel
theorem dX11_addFits_105 : decode cX11_addFits 105 = .ok (.invokevirtual 235, 3) := by decide +kernel
theorem dX11_addFits_108 : decode cX11_addFits 108 = .ok (.ifCond .eq 30, 3) := by decide +kernel
theorem dX11_addFits_111 : decode cX11_addFits 111 = .ok (.aload_n 3, 1) := by decide +kernel
theorem dX11_addFits_112 : decode cX11_addFits 112 = .ok (.iload 4, 2) := by decide +kernel
theorem dX11_addFits_114 : decode cX11_addFits 114 = .ok (.iload 5, 2) := by decide +kernel
theorem dX11_addFits_116 : decode cX11_addFits 116 = .ok (.aload_n 0, 1) := by decide +kernel
theorem dX11_addFits_117 : decode cX11_addFits 117 = .ok (.getfield 33, 3) := by decide +kernel
theorem dX11_addFits_120 : decode cX11_addFits 120 = .ok (.iload 5, 2) := by decide +kernel
theorem dX11_addFits_122 : decode cX11_addFits 122 = .ok (.invokevirtual 213, 3) := by decide +kernel
theorem dX11_addFits_125 : decode cX11_addFits 125 = .ok (.aload_n 0, 1) := by decide +kernel
theorem dX11_addFits_126 : decode cX11_addFits 126 = .ok (.getfield 33, 3) := by decide +kernel
theorem dX11_addFits_129 : decode cX11_addFits 129 = .ok (.iload 4, 2) := by decide +kernel
theorem dX11_addFits_131 : decode cX11_addFits 131 = .ok (.invokevirtual 213, 3) := by decide +kernel
theorem dX11_addFits_134 : decode cX11_addFits 134 = .ok (.isub, 1) := by decide +kernel
theorem dX11_addFits_135 : decode cX11_addFits 135 = .ok (.invokevirtual 375, 3) := by decide +kernel
theorem dX11_addFits_138 : decode cX11_addFits 138 = .ok (.iinc 5 1, 3) := by decide +kernel
theorem dX11_addFits_141 : decode cX11_addFits 141 = .ok (.goto (-92), 3) := by decide +kernel
theorem dX11_addFits_144 : decode cX11_addFits 144 = .ok (.iinc 4 1, 3) := by decide +kernel
theorem dX11_addFits_147 : decode cX11_addFits 147 = .ok (.goto (-137), 3) := by decide +kernel
theorem dX11_addFits_150 : decode cX11_addFits 150 = .ok (.return_, 1) := by decide +kernel
theorem dX11_raise_0 : decode cX11_raise 0 = .ok (.aload_n 0, 1) := by decide +kernel
theorem dX11_raise_1 : decode cX11_raise 1 = .ok (.getfield 54, 3) := by decide +kernel
theorem dX11_raise_4 : decode cX11_raise 4 = .ok (.iload_n 1, 1) := by decide +kernel
theorem dX11_raise_5 : decode cX11_raise 5 = .ok (.iconst 1, 1) := by decide +kernel
theorem dX11_raise_6 : decode cX11_raise 6 = .ok (.if_icmp .ne 7, 3) := by decide +kernel
theorem dX11_raise_9 : decode cX11_raise 9 = .ok (.iconst 1, 1) := by decide +kernel
theorem dX11_raise_10 : decode cX11_raise 10 = .ok (.goto 4, 3) := by decide +kernel
theorem dX11_raise_13 : decode cX11_raise 13 = .ok (.iconst 0, 1) := by decide +kernel
theorem dX11_raise_14 : decode cX11_raise 14 = .ok (.aaload, 1) := by decide +kernel
theorem dX11_raise_15 : decode cX11_raise 15 = .ok (.astore_n 3, 1) := by decide +kernel
theorem dX11_raise_16 : decode cX11_raise 16 = .ok (.aload_n 3, 1) := by decide +kernel
theorem dX11_raise_17 : decode cX11_raise 17 = .ok (.iload_n 2, 1) := by decide +kernel
theorem dX11_raise_18 : decode cX11_raise 18 = .ok (.invokevirtual 379, 3) := by decide +kernel
theorem dX11_raise_21 : decode cX11_raise 21 = .ok (.ifCond .ne 31, 3) := by decide +kernel
theorem dX11_raise_24 : decode cX11_raise 24 = .ok (.aload_n 0, 1) := by decide +kernel
theorem dX11_raise_25 : decode cX11_raise 25 = .ok (.getfield 61, 3) := by decide +kernel
theorem dX11_raise_28 : decode cX11_raise 28 = .ok (.aload_n 3, 1) := by decide +kernel
theorem dX11_raise_29 : decode cX11_raise 29 = .ok (.iload_n 2, 1) := by decide +kernel
theorem dX11_raise_30 : decode cX11_raise 30 = .ok (.aload_n 0, 1) := by decide +kernel
theorem dX11_raise_31 : decode cX11_raise 31 = .ok (.getfield 33, 3) := by decide +kernel
theorem dX11_raise_34 : decode cX11_raise 34 = .ok (.aload_n 0, 1) := by decide +kernel
theorem dX11_raise_35 : decode cX11_raise 35 = .ok (.getfield 26, 3) := by decide +kernel
theorem dX11_raise_38 : decode cX11_raise 38 = .ok (.iload_n 1, 1) := by decide +kernel
theorem dX11_raise_39 : decode cX11_raise 39 = .ok (.iconst 1, 1) := by decide +kernel
theorem dX11_raise_40 : decode cX11_raise 40 = .ok (.if_icmp .ne 7, 3) := by decide +kernel
theorem dX11_raise_43 : decode cX11_raise 43 = .ok (.iconst 1, 1) := by decide +kernel
theorem dX11_raise_44 : decode cX11_raise 44 = .ok (.goto 4, 3) := by decide +kernel
theorem dX11_raise_47 : decode cX11_raise 47 = .ok (.iconst 0, 1) := by decide +kernel
theorem dX11_raise_48 : decode cX11_raise 48 = .ok (.aaload, 1) := by decide +kernel
theorem dX11_raise_49 : decode cX11_raise 49 = .ok (.invokevirtual 382, 3) := by decide +kernel
theorem dX11_raise_52 : decode cX11_raise 52 = .ok (.aload_n 3, 1) := by decide +kernel
theorem dX11_raise_53 : decode cX11_raise 53 = .ok (.areturn, 1) := by decide +kernel
theorem dX11_countReused_0 : decode cX11_countReused 0 = .ok (.aload_n 0, 1) := by decide +kernel
theorem dX11_countReused_1 : decode cX11_countReused 1 = .ok (.invokevirtual 238, 3) := by decide +kernel
theorem dX11_countReused_4 : decode cX11_countReused 4 = .ok (.iconst 0, 1) := by decide +kernel
theorem dX11_countReused_5 : decode cX11_countReused 5 = .ok (.istore_n 1, 1) := by decide +kernel
theorem dX11_countReused_6 : decode cX11_countReused 6 = .ok (.iconst 0, 1) := by decide +kernel
theorem dX11_countReused_7 : decode cX11_countReused 7 = .ok (.istore_n 2, 1) := by decide +kernel
theorem dX11_countReused_8 : decode cX11_countReused 8 = .ok (.iload_n 2, 1) := by decide +kernel
theorem dX11_countReused_9 : decode cX11_countReused 9 = .ok (.bipush 16, 2) := by decide +kernel
theorem dX11_countReused_11 : decode cX11_countReused 11 = .ok (.if_icmp .ge 40, 3) := by decide +kernel
theorem dX11_countReused_14 : decode cX11_countReused 14 = .ok (.aload_n 0, 1) := by decide +kernel
theorem dX11_countReused_15 : decode cX11_countReused 15 = .ok (.getfield 54, 3) := by decide +kernel
theorem dX11_countReused_18 : decode cX11_countReused 18 = .ok (.iconst 0, 1) := by decide +kernel
theorem dX11_countReused_19 : decode cX11_countReused 19 = .ok (.aaload, 1) := by decide +kernel
theorem dX11_countReused_20 : decode cX11_countReused 20 = .ok (.iload_n 2, 1) := by decide +kernel
theorem dX11_countReused_21 : decode cX11_countReused 21 = .ok (.invokevirtual 257, 3) := by decide +kernel
theorem dX11_countReused_24 : decode cX11_countReused 24 = .ok (.iconst (-1), 1) := by decide +kernel
theorem dX11_countReused_25 : decode cX11_countReused 25 = .ok (.if_icmp .eq 20, 3) := by decide +kernel
theorem dX11_countReused_28 : decode cX11_countReused 28 = .ok (.aload_n 0, 1) := by decide +kernel
theorem dX11_countReused_29 : decode cX11_countReused 29 = .ok (.getfield 54, 3) := by decide +kernel
theorem dX11_countReused_32 : decode cX11_countReused 32 = .ok (.iconst 1, 1) := by decide +kernel
theorem dX11_countReused_33 : decode cX11_countReused 33 = .ok (.aaload, 1) := by decide +kernel
theorem dX11_countReused_34 : decode cX11_countReused 34 = .ok (.iload_n 2, 1) := by decide +kernel
theorem dX11_countReused_35 : decode cX11_countReused 35 = .ok (.invokevirtual 257, 3) := by decide +kernel
theorem dX11_countReused_38 : decode cX11_countReused 38 = .ok (.iconst (-1), 1) := by decide +kernel
theorem dX11_countReused_39 : decode cX11_countReused 39 = .ok (.if_icmp .eq 6, 3) := by decide +kernel
theorem dX11_countReused_42 : decode cX11_countReused 42 = .ok (.iinc 1 1, 3) := by decide +kernel
theorem dX11_countReused_45 : decode cX11_countReused 45 = .ok (.iinc 2 1, 3) := by decide +kernel
theorem dX11_countReused_48 : decode cX11_countReused 48 = .ok (.goto (-40), 3) := by decide +kernel
theorem dX11_countReused_51 : decode cX11_countReused 51 = .ok (.iload_n 1, 1) := by decide +kernel
theorem dX11_countReused_52 : decode cX11_countReused 52 = .ok (.ireturn, 1) := by decide +kernel
theorem dX11_countIdle_0 : decode cX11_countIdle 0 = .ok (.aload_n 0, 1) := by decide +kernel
theorem dX11_countIdle_1 : decode cX11_countIdle 1 = .ok (.invokevirtual 238, 3) := by decide +kernel
theorem dX11_countIdle_4 : decode cX11_countIdle 4 = .ok (.aload_n 0, 1) := by decide +kernel
theorem dX11_countIdle_5 : decode cX11_countIdle 5 = .ok (.invokevirtual 163, 3) := by decide +kernel
theorem dX11_countIdle_8 : decode cX11_countIdle 8 = .ok (.istore_n 2, 1) := by decide +kernel
theorem dX11_countIdle_9 : decode cX11_countIdle 9 = .ok (.iconst 0, 1) := by decide +kernel
theorem dX11_countIdle_10 : decode cX11_countIdle 10 = .ok (.istore_n 3, 1) := by decide +kernel
theorem dX11_countIdle_11 : decode cX11_countIdle 11 = .ok (.iconst 0, 1) := by decide +kernel
theorem dX11_countIdle_12 : decode cX11_countIdle 12 = .ok (.istore 4, 2) := by decide +kernel
theorem dX11_countIdle_14 : decode cX11_countIdle 14 = .ok (.iload 4, 2) := by decide +kernel
theorem dX11_countIdle_16 : decode cX11_countIdle 16 = .ok (.iload_n 2, 1) := by decide +kernel
theorem dX11_countIdle_17 : decode cX11_countIdle 17 = .ok (.if_icmp .ge 55, 3) := by decide +kernel
theorem dX11_countIdle_20 : decode cX11_countIdle 20 = .ok (.aload_n 0, 1) := by decide +kernel
theorem dX11_countIdle_21 : decode cX11_countIdle 21 = .ok (.getfield 33, 3) := by decide +kernel
theorem dX11_countIdle_24 : decode cX11_countIdle 24 = .ok (.iload 4, 2) := by decide +kernel
theorem dX11_countIdle_26 : decode cX11_countIdle 26 = .ok (.invokevirtual 210, 3) := by decide +kernel
theorem dX11_countIdle_29 : decode cX11_countIdle 29 = .ok (.iload_n 1, 1) := by decide +kernel
theorem dX11_countIdle_30 : decode cX11_countIdle 30 = .ok (.if_icmp .ne 36, 3) := by decide +kernel
theorem dX11_countIdle_33 : decode cX11_countIdle 33 = .ok (.aload_n 0, 1) := by decide +kernel
theorem dX11_countIdle_34 : decode cX11_countIdle 34 = .ok (.getfield 47, 3) := by decide +kernel
theorem dX11_countIdle_37 : decode cX11_countIdle 37 = .ok (.iconst 0, 1) := by decide +kernel
theorem dX11_countIdle_38 : decode cX11_countIdle 38 = .ok (.aaload, 1) := by decide +kernel
theorem dX11_countIdle_39 : decode cX11_countIdle 39 = .ok (.iload 4, 2) := by decide +kernel
theorem dX11_countIdle_41 : decode cX11_countIdle 41 = .ok (.invokevirtual 251, 3) := by decide +kernel
theorem dX11_countIdle_44 : decode cX11_countIdle 44 = .ok (.iconst (-1), 1) := by decide +kernel
theorem dX11_countIdle_45 : decode cX11_countIdle 45 = .ok (.if_icmp .ne 21, 3) := by decide +kernel
theorem dX11_countIdle_48 : decode cX11_countIdle 48 = .ok (.aload_n 0, 1) := by decide +kernel
theorem dX11_countIdle_49 : decode cX11_countIdle 49 = .ok (.getfield 47, 3) := by decide +kernel
theorem dX11_countIdle_52 : decode cX11_countIdle 52 = .ok (.iconst 1, 1) := by decide +kernel
theorem dX11_countIdle_53 : decode cX11_countIdle 53 = .ok (.aaload, 1) := by decide +kernel
theorem dX11_countIdle_54 : decode cX11_countIdle 54 = .ok (.iload 4, 2) := by decide +kernel
theorem dX11_countIdle_56 : decode cX11_countIdle 56 = .ok (.invokevirtual 251, 3) := by decide +kernel
theorem dX11_countIdle_59 : decode cX11_countIdle 59 = .ok (.iconst (-1), 1) := by decide +kernel
theorem dX11_countIdle_60 : decode cX11_countIdle 60 = .ok (.if_icmp .ne 6, 3) := by decide +kernel
theorem dX11_countIdle_63 : decode cX11_countIdle 63 = .ok (.iinc 3 1, 3) := by decide +kernel
theorem dX11_countIdle_66 : decode cX11_countIdle 66 = .ok (.iinc 4 1, 3) := by decide +kernel
theorem dX11_countIdle_69 : decode cX11_countIdle 69 = .ok (.goto (-55), 3) := by decide +kernel
theorem dX11_countIdle_72 : decode cX11_countIdle 72 = .ok (.iload_n 3, 1) := by decide +kernel
theorem dX11_countIdle_73 : decode cX11_countIdle 73 = .ok (.ireturn, 1) := by decide +kernel
theorem dX11_pick_0 : decode cX11_pick 0 = .ok (.iload_n 1, 1) := by decide +kernel
theorem dX11_pick_1 : decode cX11_pick 1 = .ok (.ifCond .lt 15, 3) := by decide +kernel
theorem dX11_pick_4 : decode cX11_pick 4 = .ok (.iload_n 1, 1) := by decide +kernel
theorem dX11_pick_5 : decode cX11_pick 5 = .ok (.aload_n 0, 1) := by decide +kernel
theorem dX11_pick_6 : decode cX11_pick 6 = .ok (.arraylength, 1) := by decide +kernel
theorem dX11_pick_7 : decode cX11_pick 7 = .ok (.if_icmp .ge 9, 3) := by decide +kernel
theorem dX11_pick_10 : decode cX11_pick 10 = .ok (.aload_n 0, 1) := by decide +kernel
theorem dX11_pick_11 : decode cX11_pick 11 = .ok (.iload_n 1, 1) := by decide +kernel
theorem dX11_pick_12 : decode cX11_pick 12 = .ok (.iaload, 1) := by decide +kernel
theorem dX11_pick_13 : decode cX11_pick 13 = .ok (.goto 4, 3) := by decide +kernel
theorem dX11_pick_16 : decode cX11_pick 16 = .ok (.iconst (-1), 1) := by decide +kernel
theorem dX11_pick_17 : decode cX11_pick 17 = .ok (.ireturn, 1) := by decide +kernel
theorem dX12_init_0 : decode cX12_init 0 = .ok (.aload_n 0, 1) := by decide +kernel
theorem dX12_init_1 : decode cX12_init 1 = .ok (.invokespecial 1, 3) := by decide +kernel
theorem dX12_init_4 : decode cX12_init 4 = .ok (.aload_n 0, 1) := by decide +kernel
theorem dX12_init_5 : decode cX12_init 5 = .ok (.iconst (-1), 1) := by decide +kernel
theorem dX12_init_6 : decode cX12_init 6 = .ok (.putfield 9, 3) := by decide +kernel
theorem dX12_init_9 : decode cX12_init 9 = .ok (.aload_n 0, 1) := by decide +kernel
theorem dX12_init_10 : decode cX12_init 10 = .ok (.bipush 16, 2) := by decide +kernel
theorem dX12_init_12 : decode cX12_init 12 = .ok (.newarray .int, 2) := by decide +kernel
theorem dX12_init_14 : decode cX12_init 14 = .ok (.putfield 13, 3) := by decide +kernel
theorem dX12_init_17 : decode cX12_init 17 = .ok (.aload_n 0, 1) := by decide +kernel
theorem dX12_init_18 : decode cX12_init 18 = .ok (.bipush 16, 2) := by decide +kernel
theorem dX12_init_20 : decode cX12_init 20 = .ok (.newarray .int, 2) := by decide +kernel
theorem dX12_init_22 : decode cX12_init 22 = .ok (.putfield 17, 3) := by decide +kernel
theorem dX12_init_25 : decode cX12_init 25 = .ok (.aload_n 0, 1) := by decide +kernel
theorem dX12_init_26 : decode cX12_init 26 = .ok (.bipush 16, 2) := by decide +kernel
theorem dX12_init_28 : decode cX12_init 28 = .ok (.newarray .int, 2) := by decide +kernel
theorem dX12_init_30 : decode cX12_init 30 = .ok (.putfield 20, 3) := by decide +kernel
theorem dX12_init_33 : decode cX12_init 33 = .ok (.aload_n 0, 1) := by decide +kernel
theorem dX12_init_34 : decode cX12_init 34 = .ok (.bipush 16, 2) := by decide +kernel
theorem dX12_init_36 : decode cX12_init 36 = .ok (.newarray .int, 2) := by decide +kernel
theorem dX12_init_38 : decode cX12_init 38 = .ok (.putfield 23, 3) := by decide +kernel
theorem dX12_init_41 : decode cX12_init 41 = .ok (.aload_n 0, 1) := by decide +kernel
theorem dX12_init_42 : decode cX12_init 42 = .ok (.bipush 16, 2) := by decide +kernel
theorem dX12_init_44 : decode cX12_init 44 = .ok (.newarray .int, 2) := by decide +kernel
theorem dX12_init_46 : decode cX12_init 46 = .ok (.putfield 26, 3) := by decide +kernel
theorem dX12_init_49 : decode cX12_init 49 = .ok (.aload_n 0, 1) := by decide +kernel
theorem dX12_init_50 : decode cX12_init 50 = .ok (.sipush 384, 3) := by decide +kernel
theorem dX12_init_53 : decode cX12_init 53 = .ok (.newarray .int, 2) := by decide +kernel
theorem dX12_init_55 : decode cX12_init 55 = .ok (.putfield 29, 3) := by decide +kernel
theorem dX12_init_58 : decode cX12_init 58 = .ok (.aload_n 0, 1) := by decide +kernel
theorem dX12_init_59 : decode cX12_init 59 = .ok (.sipush 384, 3) := by decide +kernel
theorem dX12_init_62 : decode cX12_init 62 = .ok (.newarray .int, 2) := by decide +kernel
theorem dX12_init_64 : decode cX12_init 64 = .ok (.putfield 32, 3) := by decide +kernel
theorem dX12_init_67 : decode cX12_init 67 = .ok (.aload_n 0, 1) := by decide +kernel
theorem dX12_init_68 : decode cX12_init 68 = .ok (.bipush 16, 2) := by decide +kernel
theorem dX12_init_70 : decode cX12_init 70 = .ok (.newarray .int, 2) := by decide +kernel
theorem dX12_init_72 : decode cX12_init 72 = .ok (.putfield 35, 3) := by decide +kernel
theorem dX12_init_75 : decode cX12_init 75 = .ok (.aload_n 0, 1) := by decide +kernel
theorem dX12_init_76 : decode cX12_init 76 = .ok (.bipush 16, 2) := by decide +kernel
theorem dX12_init_78 : decode cX12_init 78 = .ok (.newarray .boolean, 2) := by decide +kernel
theorem dX12_init_80 : decode cX12_init 80 = .ok (.putfield 38, 3) := by decide +kernel
theorem dX12_init_83 : decode cX12_init 83 = .ok (.aload_n 0, 1) := by decide +kernel
theorem dX12_init_84 : decode cX12_init 84 = .ok (.bipush 48, 2) := by decide +kernel
theorem dX12_init_86 : decode cX12_init 86 = .ok (.newarray .int, 2) := by decide +kernel
theorem dX12_init_88 : decode cX12_init 88 = .ok (.putfield 42, 3) := by decide +kernel
theorem dX12_init_91 : decode cX12_init 91 = .ok (.aload_n 0, 1) := by decide +kernel
theorem dX12_init_92 : decode cX12_init 92 = .ok (.bipush 48, 2) := by decide +kernel
theorem dX12_init_94 : decode cX12_init 94 = .ok (.newarray .int, 2) := by decide +kernel
theorem dX12_init_96 : decode cX12_init 96 = .ok (.putfield 45, 3) := by decide +kernel
theorem dX12_init_99 : decode cX12_init 99 = .ok (.aload_n 0, 1) := by decide +kernel
theorem dX12_init_100 : decode cX12_init 100 = .ok (.bipush 48, 2) := by decide +kernel
theorem dX12_init_102 : decode cX12_init 102 = .ok (.newarray .int, 2) := by decide +kernel
theorem dX12_init_104 : decode cX12_init 104 = .ok (.putfield 48, 3) := by decide +kernel
theorem dX12_init_107 : decode cX12_init 107 = .ok (.aload_n 0, 1) := by decide +kernel
theorem dX12_init_108 : decode cX12_init 108 = .ok (.bipush 48, 2) := by decide +kernel
theorem dX12_init_110 : decode cX12_init 110 = .ok (.newarray .int, 2) := by decide +kernel
theorem dX12_init_112 : decode cX12_init 112 = .ok (.putfield 51, 3) := by decide +kernel
theorem dX12_init_115 : decode cX12_init 115 = .ok (.aload_n 0, 1) := by decide +kernel
theorem dX12_init_116 : decode cX12_init 116 = .ok (.bipush 48, 2) := by decide +kernel
theorem dX12_init_118 : decode cX12_init 118 = .ok (.newarray .int, 2) := by decide +kernel
theorem dX12_init_120 : decode cX12_init 120 = .ok (.putfield 54, 3) := by decide +kernel
theorem dX12_init_123 : decode cX12_init 123 = .ok (.aload_n 0, 1) := by decide +kernel
theorem dX12_init_124 : decode cX12_init 124 = .ok (.sipush 200, 3) := by decide +kernel
theorem dX12_init_127 : decode cX12_init 127 = .ok (.newarray .int, 2) := by decide +kernel
theorem dX12_init_129 : decode cX12_init 129 = .ok (.putfield 57, 3) := by decide +kernel
theorem dX12_init_132 : decode cX12_init 132 = .ok (.aload_n 0, 1) := by decide +kernel
theorem dX12_init_133 : decode cX12_init 133 = .ok (.sipush 200, 3) := by decide +kernel
theorem dX12_init_136 : decode cX12_init 136 = .ok (.newarray .int, 2) := by decide +kernel
theorem dX12_init_138 : decode cX12_init 138 = .ok (.putfield 60, 3) := by decide +kernel
theorem dX12_init_141 : decode cX12_init 141 = .ok (.aload_n 0, 1) := by decide +kernel
theorem dX12_init_142 : decode cX12_init 142 = .ok (.sipush 200, 3) := by decide +kernel
theorem dX12_init_145 : decode cX12_init 145 = .ok (.newarray .int, 2) := by decide +kernel
theorem dX12_init_147 : decode cX12_init 147 = .ok (.putfield 63, 3) := by decide +kernel
theorem dX12_init_150 : decode cX12_init 150 = .ok (.aload_n 0, 1) := by decide +kernel
theorem dX12_init_151 : decode cX12_init 151 = .ok (.sipush 200, 3) := by decide +kernel
theorem dX12_init_154 : decode cX12_init 154 = .ok (.newarray .int, 2) := by decide +kernel
theorem dX12_init_156 : decode cX12_init 156 = .ok (.putfield 66, 3) := by decide +kernel
theorem dX12_init_159 : decode cX12_init 159 = .ok (.aload_n 0, 1) := by decide +kernel
theorem dX12_init_160 : decode cX12_init 160 = .ok (.sipush 1200, 3) := by decide +kernel
theorem dX12_init_163 : decode cX12_init 163 = .ok (.newarray .int, 2) := by decide +kernel
theorem dX12_init_165 : decode cX12_init 165 = .ok (.putfield 69, 3) := by decide +kernel
theorem dX12_init_168 : decode cX12_init 168 = .ok (.aload_n 0, 1) := by decide +kernel
theorem dX12_init_169 : decode cX12_init 169 = .ok (.sipush 800, 3) := by decide +kernel
theorem dX12_init_172 : decode cX12_init 172 = .ok (.newarray .int, 2) := by decide +kernel
theorem dX12_init_174 : decode cX12_init 174 = .ok (.putfield 72, 3) := by decide +kernel
theorem dX12_init_177 : decode cX12_init 177 = .ok (.aload_n 0, 1) := by decide +kernel
theorem dX12_init_178 : decode cX12_init 178 = .ok (.sipush 150, 3) := by decide +kernel
theorem dX12_init_181 : decode cX12_init 181 = .ok (.newarray .int, 2) := by decide +kernel
theorem dX12_init_183 : decode cX12_init 183 = .ok (.dup, 1) := by decide +kernel
theorem dX12_init_184 : decode cX12_init 184 = .ok (.iconst 0, 1) := by decide +kernel
theorem dX12_init_185 : decode cX12_init 185 = .ok (.iconst 3, 1) := by decide +kernel
theorem dX12_init_186 : decode cX12_init 186 = .ok (.iastore, 1) := by decide +kernel
theorem dX12_init_187 : decode cX12_init 187 = .ok (.dup, 1) := by decide +kernel
theorem dX12_init_188 : decode cX12_init 188 = .ok (.iconst 1, 1) := by decide +kernel
theorem dX12_init_189 : decode cX12_init 189 = .ok (.iconst 0, 1) := by decide +kernel
theorem dX12_init_190 : decode cX12_init 190 = .ok (.iastore, 1) := by decide +kernel
theorem dX12_init_191 : decode cX12_init 191 = .ok (.dup, 1) := by decide +kernel
theorem dX12_init_192 : decode cX12_init 192 = .ok (.iconst 2, 1) := by decide +kernel
theorem dX12_init_193 : decode cX12_init 193 = .ok (.iconst 1, 1) := by decide +kernel
theorem dX12_init_194 : decode cX12_init 194 = .ok (.iastore, 1) := by decide +kernel
theorem dX12_init_195 : decode cX12_init 195 = .ok (.dup, 1) := by decide +kernel
theorem dX12_init_196 : decode cX12_init 196 = .ok (.iconst 3, 1) := by decide +kernel
theorem dX12_init_197 : decode cX12_init 197 = .ok (.iconst 2, 1) := by decide +kernel
theorem dX12_init_198 : decode cX12_init 198 = .ok (.iastore, 1) := by decide +kernel
theorem dX12_init_199 : decode cX12_init 199 = .ok (.dup, 1) := by decide +kernel
theorem dX12_init_200 : decode cX12_init 200 = .ok (.iconst 4, 1) := by decide +kernel
theorem dX12_init_201 : decode cX12_init 201 = .ok (.bipush 60, 2) := by decide +kernel
theorem dX12_init_203 : decode cX12_init 203 = .ok (.iastore, 1) := by decide +kernel
theorem dX12_init_204 : decode cX12_init 204 = .ok (.dup, 1) := by decide +kernel
theorem dX12_init_205 : decode cX12_init 205 = .ok (.iconst 5, 1) := by decide +kernel
theorem dX12_init_206 : decode cX12_init 206 = .ok (.iconst 1, 1) := by decide +kernel
theorem dX12_init_207 : decode cX12_init 207 = .ok (.iastore, 1) := by decide +kernel
theorem dX12_init_208 : decode cX12_init 208 = .ok (.dup, 1) := by decide +kernel
theorem dX12_init_209 : decode cX12_init 209 = .ok (.bipush 6, 2) := by decide +kernel
theorem dX12_init_211 : decode cX12_init 211 = .ok (.bipush 10, 2) := by decide +kernel
theorem dX12_init_213 : decode cX12_init 213 = .ok (.iastore, 1) := by decide +kernel
theorem dX12_init_214 : decode cX12_init 214 = .ok (.dup, 1) := by decide +kernel
theorem dX12_init_215 : decode cX12_init 215 = .ok (.bipush 7, 2) := by decide +kernel
theorem dX12_init_217 : decode cX12_init 217 = .ok (.bipush 30, 2) := by decide +kernel
theorem dX12_init_219 : decode cX12_init 219 = .ok (.iastore, 1) := by decide +kernel
theorem dX12_init_220 : decode cX12_init 220 = .ok (.dup, 1) := by decide +kernel
theorem dX12_init_221 : decode cX12_init 221 = .ok (.bipush 8, 2) := by decide +kernel
theorem dX12_init_223 : decode cX12_init 223 = .ok (.iconst 2, 1) := by decide +kernel
theorem dX12_init_224 : decode cX12_init 224 = .ok (.iastore, 1) := by decide +kernel
theorem dX12_init_225 : decode cX12_init 225 = .ok (.dup, 1) := by decide +kernel
theorem dX12_init_226 : decode cX12_init 226 = .ok (.bipush 9, 2) := by decide +kernel
theorem dX12_init_228 : decode cX12_init 228 = .ok (.iconst 0, 1) := by decide +kernel
theorem dX12_init_229 : decode cX12_init 229 = .ok (.iastore, 1) := by decide +kernel
theorem dX12_init_230 : decode cX12_init 230 = .ok (.dup, 1) := by decide +kernel
theorem dX12_init_231 : decode cX12_init 231 = .ok (.bipush 10, 2) := by decide +kernel
theorem dX12_init_233 : decode cX12_init 233 = .ok (.iconst 0, 1) := by decide +kernel
theorem dX12_init_234 : decode cX12_init 234 = .ok (.iastore, 1) := by decide +kernel
theorem dX12_init_235 : decode cX12_init 235 = .ok (.dup, 1) := by decide +kernel
theorem dX12_init_236 : decode cX12_init 236 = .ok (.bipush 11, 2) := by decide +kernel
theorem dX12_init_238 : decode cX12_init 238 = .ok (.iconst 0, 1) := by decide +kernel
theorem dX12_init_239 : decode cX12_init 239 = .ok (.iastore, 1) := by decide +kernel
theorem dX12_init_240 : decode cX12_init 240 = .ok (.dup, 1) := by decide +kernel
theorem dX12_init_241 : decode cX12_init 241 = .ok (.bipush 12, 2) := by decide +kernel
theorem dX12_init_243 : decode cX12_init 243 = .ok (.iconst 0, 1) := by decide +kernel
theorem dX12_init_244 : decode cX12_init 244 = .ok (.iastore, 1) := by decide +kernel
theorem dX12_init_245 : decode cX12_init 245 = .ok (.dup, 1) := by decide +kernel
theorem dX12_init_246 : decode cX12_init 246 = .ok (.bipush 13, 2) := by decide +kernel
theorem dX12_init_248 : decode cX12_init 248 = .ok (.iconst 0, 1) := by decide +kernel
theorem dX12_init_249 : decode cX12_init 249 = .ok (.iastore, 1) := by decide +kernel
theorem dX12_init_250 : decode cX12_init 250 = .ok (.dup, 1) := by decide +kernel
theorem dX12_init_251 : decode cX12_init 251 = .ok (.bipush 14, 2) := by decide +kernel
theorem dX12_init_253 : decode cX12_init 253 = .ok (.iconst 0, 1) := by decide +kernel
theorem dX12_init_254 : decode cX12_init 254 = .ok (.iastore, 1) := by decide +kernel
theorem dX12_init_255 : decode cX12_init 255 = .ok (.dup, 1) := by decide +kernel
theorem dX12_init_256 : decode cX12_init 256 = .ok (.bipush 15, 2) := by decide +kernel
theorem dX12_init_258 : decode cX12_init 258 = .ok (.iconst 0, 1) := by decide +kernel
theorem dX12_init_259 : decode cX12_init 259 = .ok (.iastore, 1) := by decide +kernel
theorem dX12_init_260 : decode cX12_init 260 = .ok (.dup, 1) := by decide +kernel
theorem dX12_init_261 : decode cX12_init 261 = .ok (.bipush 16, 2) := by decide +kernel
theorem dX12_init_263 : decode cX12_init 263 = .ok (.iconst 0, 1) := by decide +kernel
theorem dX12_init_264 : decode cX12_init 264 = .ok (.iastore, 1) := by decide +kernel
theorem dX12_init_265 : decode cX12_init 265 = .ok (.dup, 1) := by decide +kernel
theorem dX12_init_266 : decode cX12_init 266 = .ok (.bipush 17, 2) := by decide +kernel
theorem dX12_init_268 : decode cX12_init 268 = .ok (.iconst 0, 1) := by decide +kernel
theorem dX12_init_269 : decode cX12_init 269 = .ok (.iastore, 1) := by decide +kernel
theorem dX12_init_270 : decode cX12_init 270 = .ok (.dup, 1) := by decide +kernel
theorem dX12_init_271 : decode cX12_init 271 = .ok (.bipush 18, 2) := by decide +kernel
theorem dX12_init_273 : decode cX12_init 273 = .ok (.iconst 0, 1) := by decide +kernel
theorem dX12_init_274 : decode cX12_init 274 = .ok (.iastore, 1) := by decide +kernel
theorem dX12_init_275 : decode cX12_init 275 = .ok (.dup, 1) := by decide +kernel
theorem dX12_init_276 : decode cX12_init 276 = .ok (.bipush 19, 2) := by decide +kernel
theorem dX12_init_278 : decode cX12_init 278 = .ok (.iconst 0, 1) := by decide +kernel
theorem dX12_init_279 : decode cX12_init 279 = .ok (.iastore, 1) := by decide +kernel
theorem dX12_init_280 : decode cX12_init 280 = .ok (.dup, 1) := by decide +kernel
theorem dX12_init_281 : decode cX12_init 281 = .ok (.bipush 20, 2) := by decide +kernel
theorem dX12_init_283 : decode cX12_init 283 = .ok (.iconst 0, 1) := by decide +kernel
theorem dX12_init_284 : decode cX12_init 284 = .ok (.iastore, 1) := by decide +kernel
theorem dX12_init_285 : decode cX12_init 285 = .ok (.dup, 1) := by decide +kernel
theorem dX12_init_286 : decode cX12_init 286 = .ok (.bipush 21, 2) := by decide +kernel
theorem dX12_init_288 : decode cX12_init 288 = .ok (.iconst 0, 1) := by decide +kernel
theorem dX12_init_289 : decode cX12_init 289 = .ok (.iastore, 1) := by decide +kernel
theorem dX12_init_290 : decode cX12_init 290 = .ok (.dup, 1) := by decide +kernel
theorem dX12_init_291 : decode cX12_init 291 = .ok (.bipush 22, 2) := by decide +kernel
theorem dX12_init_293 : decode cX12_init 293 = .ok (.iconst 0, 1) := by decide +kernel
theorem dX12_init_294 : decode cX12_init 294 = .ok (.iastore, 1) := by decide +kernel
theorem dX12_init_295 : decode cX12_init 295 = .ok (.dup, 1) := by decide +kernel
theorem dX12_init_296 : decode cX12_init 296 = .ok (.bipush 23, 2) := by decide +kernel
theorem dX12_init_298 : decode cX12_init 298 = .ok (.iconst 0, 1) := by decide +kernel
theorem dX12_init_299 : decode cX12_init 299 = .ok (.iastore, 1) := by decide +kernel
theorem dX12_init_300 : decode cX12_init 300 = .ok (.dup, 1) := by decide +kernel
theorem dX12_init_301 : decode cX12_init 301 = .ok (.bipush 24, 2) := by decide +kernel
theorem dX12_init_303 : decode cX12_init 303 = .ok (.iconst 0, 1) := by decide +kernel
theorem dX12_init_304 : decode cX12_init 304 = .ok (.iastore, 1) := by decide +kernel
theorem dX12_init_305 : decode cX12_init 305 = .ok (.dup, 1) := by decide +kernel
theorem dX12_init_306 : decode cX12_init 306 = .ok (.bipush 25, 2) := by decide +kernel
theorem dX12_init_308 : decode cX12_init 308 = .ok (.iconst 0, 1) := by decide +kernel
theorem dX12_init_309 : decode cX12_init 309 = .ok (.iastore, 1) := by decide +kernel
theorem dX12_init_310 : decode cX12_init 310 = .ok (.dup, 1) := by decide +kernel
theorem dX12_init_311 : decode cX12_init 311 = .ok (.bipush 26, 2) := by decide +kernel
theorem dX12_init_313 : decode cX12_init 313 = .ok (.iconst 0, 1) := by decide +kernel
theorem dX12_init_314 : decode cX12_init 314 = .ok (.iastore, 1) := by decide +kernel
theorem dX12_init_315 : decode cX12_init 315 = .ok (.dup, 1) := by decide +kernel
theorem dX12_init_316 : decode cX12_init 316 = .ok (.bipush 27, 2) := by decide +kernel
theorem dX12_init_318 : decode cX12_init 318 = .ok (.iconst 0, 1) := by decide +kernel
theorem dX12_init_319 : decode cX12_init 319 = .ok (.iastore, 1) := by decide +kernel
theorem dX12_init_320 : decode cX12_init 320 = .ok (.dup, 1) := by decide +kernel
theorem dX12_init_321 : decode cX12_init 321 = .ok (.bipush 28, 2) := by decide +kernel
theorem dX12_init_323 : decode cX12_init 323 = .ok (.iconst 0, 1) := by decide +kernel
theorem dX12_init_324 : decode cX12_init 324 = .ok (.iastore, 1) := by decide +kernel
theorem dX12_init_325 : decode cX12_init 325 = .ok (.dup, 1) := by decide +kernel
theorem dX12_init_326 : decode cX12_init 326 = .ok (.bipush 29, 2) := by decide +kernel
theorem dX12_init_328 : decode cX12_init 328 = .ok (.iconst 0, 1) := by decide +kernel
theorem dX12_init_329 : decode cX12_init 329 = .ok (.iastore, 1) := by decide +kernel
theorem dX12_init_330 : decode cX12_init 330 = .ok (.dup, 1) := by decide +kernel
theorem dX12_init_331 : decode cX12_init 331 = .ok (.bipush 30, 2) := by decide +kernel
theorem dX12_init_333 : decode cX12_init 333 = .ok (.iconst 0, 1) := by decide +kernel
theorem dX12_init_334 : decode cX12_init 334 = .ok (.iastore, 1) := by decide +kernel
theorem dX12_init_335 : decode cX12_init 335 = .ok (.dup, 1) := by decide +kernel
theorem dX12_init_336 : decode cX12_init 336 = .ok (.bipush 31, 2) := by decide +kernel
theorem dX12_init_338 : decode cX12_init 338 = .ok (.iconst 0, 1) := by decide +kernel
theorem dX12_init_339 : decode cX12_init 339 = .ok (.iastore, 1) := by decide +kernel
theorem dX12_init_340 : decode cX12_init 340 = .ok (.dup, 1) := by decide +kernel
theorem dX12_init_341 : decode cX12_init 341 = .ok (.bipush 32, 2) := by decide +kernel
theorem dX12_init_343 : decode cX12_init 343 = .ok (.iconst 0, 1) := by decide +kernel
theorem dX12_init_344 : decode cX12_init 344 = .ok (.iastore, 1) := by decide +kernel
theorem dX12_init_345 : decode cX12_init 345 = .ok (.dup, 1) := by decide +kernel
theorem dX12_init_346 : decode cX12_init 346 = .ok (.bipush 33, 2) := by decide +kernel
theorem dX12_init_348 : decode cX12_init 348 = .ok (.iconst 0, 1) := by decide +kernel
theorem dX12_init_349 : decode cX12_init 349 = .ok (.iastore, 1) := by decide +kernel
theorem dX12_init_350 : decode cX12_init 350 = .ok (.dup, 1) := by decide +kernel
theorem dX12_init_351 : decode cX12_init 351 = .ok (.bipush 34, 2) := by decide +kernel
theorem dX12_init_353 : decode cX12_init 353 = .ok (.iconst 0, 1) := by decide +kernel
theorem dX12_init_354 : decode cX12_init 354 = .ok (.iastore, 1) := by decide +kernel
theorem dX12_init_355 : decode cX12_init 355 = .ok (.dup, 1) := by decide +kernel
theorem dX12_init_356 : decode cX12_init 356 = .ok (.bipush 35, 2) := by decide +kernel
theorem dX12_init_358 : decode cX12_init 358 = .ok (.iconst 0, 1) := by decide +kernel
theorem dX12_init_359 : decode cX12_init 359 = .ok (.iastore, 1) := by decide +kernel
theorem dX12_init_360 : decode cX12_init 360 = .ok (.dup, 1) := by decide +kernel
theorem dX12_init_361 : decode cX12_init 361 = .ok (.bipush 36, 2) := by decide +kernel
theorem dX12_init_363 : decode cX12_init 363 = .ok (.iconst 0, 1) := by decide +kernel
theorem dX12_init_364 : decode cX12_init 364 = .ok (.iastore, 1) := by decide +kernel
theorem dX12_init_365 : decode cX12_init 365 = .ok (.dup, 1) := by decide +kernel
theorem dX12_init_366 : decode cX12_init 366 = .ok (.bipush 37, 2) := by decide +kernel
theorem dX12_init_368 : decode cX12_init 368 = .ok (.iconst 0, 1) := by decide +kernel
theorem dX12_init_369 : decode cX12_init 369 = .ok (.iastore, 1) := by decide +kernel
theorem dX12_init_370 : decode cX12_init 370 = .ok (.dup, 1) := by decide +kernel
theorem dX12_init_371 : decode cX12_init 371 = .ok (.bipush 38, 2) := by decide +kernel
theorem dX12_init_373 : decode cX12_init 373 = .ok (.iconst 0, 1) := by decide +kernel
theorem dX12_init_374 : decode cX12_init 374 = .ok (.iastore, 1) := by decide +kernel
theorem dX12_init_375 : decode cX12_init 375 = .ok (.dup, 1) := by decide +kernel
theorem dX12_init_376 : decode cX12_init 376 = .ok (.bipush 39, 2) := by decide +kernel
theorem dX12_init_378 : decode cX12_init 378 = .ok (.iconst 0, 1) := by decide +kernel
theorem dX12_init_379 : decode cX12_init 379 = .ok (.iastore, 1) := by decide +kernel
theorem dX12_init_380 : decode cX12_init 380 = .ok (.dup, 1) := by decide +kernel
theorem dX12_init_381 : decode cX12_init 381 = .ok (.bipush 40, 2) := by decide +kernel
theorem dX12_init_383 : decode cX12_init 383 = .ok (.iconst 0, 1) := by decide +kernel
theorem dX12_init_384 : decode cX12_init 384 = .ok (.iastore, 1) := by decide +kernel
theorem dX12_init_385 : decode cX12_init 385 = .ok (.dup, 1) := by decide +kernel
theorem dX12_init_386 : decode cX12_init 386 = .ok (.bipush 41, 2) := by decide +kernel
theorem dX12_init_388 : decode cX12_init 388 = .ok (.iconst 0, 1) := by decide +kernel
theorem dX12_init_389 : decode cX12_init 389 = .ok (.iastore, 1) := by decide +kernel
theorem dX12_init_390 : decode cX12_init 390 = .ok (.dup, 1) := by decide +kernel
theorem dX12_init_391 : decode cX12_init 391 = .ok (.bipush 42, 2) := by decide +kernel
theorem dX12_init_393 : decode cX12_init 393 = .ok (.iconst 0, 1) := by decide +kernel
theorem dX12_init_394 : decode cX12_init 394 = .ok (.iastore, 1) := by decide +kernel
theorem dX12_init_395 : decode cX12_init 395 = .ok (.dup, 1) := by decide +kernel
theorem dX12_init_396 : decode cX12_init 396 = .ok (.bipush 43, 2) := by decide +kernel
theorem dX12_init_398 : decode cX12_init 398 = .ok (.iconst 0, 1) := by decide +kernel
theorem dX12_init_399 : decode cX12_init 399 = .ok (.iastore, 1) := by decide +kernel
theorem dX12_init_400 : decode cX12_init 400 = .ok (.dup, 1) := by decide +kernel
theorem dX12_init_401 : decode cX12_init 401 = .ok (.bipush 44, 2) := by decide +kernel
theorem dX12_init_403 : decode cX12_init 403 = .ok (.iconst 0, 1) := by decide +kernel
theorem dX12_init_404 : decode cX12_init 404 = .ok (.iastore, 1) := by decide +kernel
theorem dX12_init_405 : decode cX12_init 405 = .ok (.dup, 1) := by decide +kernel
theorem dX12_init_406 : decode cX12_init 406 = .ok (.bipush 45, 2) := by decide +kernel
theorem dX12_init_408 : decode cX12_init 408 = .ok (.iconst 0, 1) := by decide +kernel
theorem dX12_init_409 : decode cX12_init 409 = .ok (.iastore, 1) := by decide +kernel
theorem dX12_init_410 : decode cX12_init 410 = .ok (.dup, 1) := by decide +kernel
theorem dX12_init_411 : decode cX12_init 411 = .ok (.bipush 46, 2) := by decide +kernel
theorem dX12_init_413 : decode cX12_init 413 = .ok (.iconst 0, 1) := by decide +kernel
theorem dX12_init_414 : decode cX12_init 414 = .ok (.iastore, 1) := by decide +kernel
theorem dX12_init_415 : decode cX12_init 415 = .ok (.dup, 1) := by decide +kernel
theorem dX12_init_416 : decode cX12_init 416 = .ok (.bipush 47, 2) := by decide +kernel
theorem dX12_init_418 : decode cX12_init 418 = .ok (.iconst 0, 1) := by decide +kernel
theorem dX12_init_419 : decode cX12_init 419 = .ok (.iastore, 1) := by decide +kernel
theorem dX12_init_420 : decode cX12_init 420 = .ok (.dup, 1) := by decide +kernel
theorem dX12_init_421 : decode cX12_init 421 = .ok (.bipush 48, 2) := by decide +kernel
theorem dX12_init_423 : decode cX12_init 423 = .ok (.iconst 0, 1) := by decide +kernel
theorem dX12_init_424 : decode cX12_init 424 = .ok (.iastore, 1) := by decide +kernel
theorem dX12_init_425 : decode cX12_init 425 = .ok (.dup, 1) := by decide +kernel
theorem dX12_init_426 : decode cX12_init 426 = .ok (.bipush 49, 2) := by decide +kernel
theorem dX12_init_428 : decode cX12_init 428 = .ok (.iconst 0, 1) := by decide +kernel
theorem dX12_init_429 : decode cX12_init 429 = .ok (.iastore, 1) := by decide +kernel
theorem dX12_init_430 : decode cX12_init 430 = .ok (.dup, 1) := by decide +kernel
theorem dX12_init_431 : decode cX12_init 431 = .ok (.bipush 50, 2) := by decide +kernel
theorem dX12_init_433 : decode cX12_init 433 = .ok (.iconst 3, 1) := by decide +kernel
theorem dX12_init_434 : decode cX12_init 434 = .ok (.iastore, 1) := by decide +kernel
theorem dX12_init_435 : decode cX12_init 435 = .ok (.dup, 1) := by decide +kernel
theorem dX12_init_436 : decode cX12_init 436 = .ok (.bipush 51, 2) := by decide +kernel
theorem dX12_init_438 : decode cX12_init 438 = .ok (.iconst 0, 1) := by decide +kernel
theorem dX12_init_439 : decode cX12_init 439 = .ok (.iastore, 1) := by decide +kernel
theorem dX12_init_440 : decode cX12_init 440 = .ok (.dup, 1) := by decide +kernel
theorem dX12_init_441 : decode cX12_init 441 = .ok (.bipush 52, 2) := by decide +kernel
theorem dX12_init_443 : decode cX12_init 443 = .ok (.iconst 1, 1) := by decide +kernel
theorem dX12_init_444 : decode cX12_init 444 = .ok (.iastore, 1) := by decide +kernel
theorem dX12_init_445 : decode cX12_init 445 = .ok (.dup, 1) := by decide +kernel
theorem dX12_init_446 : decode cX12_init 446 = .ok (.bipush 53, 2) := by decide +kernel
theorem dX12_init_448 : decode cX12_init 448 = .ok (.iconst 2, 1) := by decide +kernel
theorem dX12_init_449 : decode cX12_init 449 = .ok (.iastore, 1) := by decide +kernel
theorem dX12_init_450 : decode cX12_init 450 = .ok (.dup, 1) := by decide +kernel
theorem dX12_init_451 : decode cX12_init 451 = .ok (.bipush 54, 2) := by decide +kernel
theorem dX12_init_453 : decode cX12_init 453 = .ok (.bipush 60, 2) := by decide +kernel
theorem dX12_init_455 : decode cX12_init 455 = .ok (.iastore, 1) := by decide +kernel
theorem dX12_init_456 : decode cX12_init 456 = .ok (.dup, 1) := by decide +kernel
theorem dX12_init_457 : decode cX12_init 457 = .ok (.bipush 55, 2) := by decide +kernel
theorem dX12_init_459 : decode cX12_init 459 = .ok (.iconst 1, 1) := by decide +kernel
theorem dX12_init_460 : decode cX12_init 460 = .ok (.iastore, 1) := by decide +kernel
theorem dX12_init_461 : decode cX12_init 461 = .ok (.dup, 1) := by decide +kernel
theorem dX12_init_462 : decode cX12_init 462 = .ok (.bipush 56, 2) := by decide +kernel
theorem dX12_init_464 : decode cX12_init 464 = .ok (.bipush 10, 2) := by decide +kernel
theorem dX12_init_466 : decode cX12_init 466 = .ok (.iastore, 1) := by decide +kernel
theorem dX12_init_467 : decode cX12_init 467 = .ok (.dup, 1) := by decide +kernel
theorem dX12_init_468 : decode cX12_init 468 = .ok (.bipush 57, 2) := by decide +kernel
theorem dX12_init_470 : decode cX12_init 470 = .ok (.bipush 30, 2) := by decide +kernel
theorem dX12_init_472 : decode cX12_init 472 = .ok (.iastore, 1) := by decide +kernel
theorem dX12_init_473 : decode cX12_init 473 = .ok (.dup, 1) := by decide +kernel
theorem dX12_init_474 : decode cX12_init 474 = .ok (.bipush 58, 2) := by decide +kernel
theorem dX12_init_476 : decode cX12_init 476 = .ok (.iconst 2, 1) := by decide +kernel
theorem dX12_init_477 : decode cX12_init 477 = .ok (.iastore, 1) := by decide +kernel
theorem dX12_init_478 : decode cX12_init 478 = .ok (.dup, 1) := by decide +kernel
theorem dX12_init_479 : decode cX12_init 479 = .ok (.bipush 59, 2) := by decide +kernel
theorem dX12_init_481 : decode cX12_init 481 = .ok (.iconst 0, 1) := by decide +kernel
theorem dX12_init_482 : decode cX12_init 482 = .ok (.iastore, 1) := by decide +kernel
theorem dX12_init_483 : decode cX12_init 483 = .ok (.dup, 1) := by decide +kernel
theorem dX12_init_484 : decode cX12_init 484 = .ok (.bipush 60, 2) := by decide +kernel
theorem dX12_init_486 : decode cX12_init 486 = .ok (.iconst 0, 1) := by decide +kernel
theorem dX12_init_487 : decode cX12_init 487 = .ok (.iastore, 1) := by decide +kernel
theorem dX12_init_488 : decode cX12_init 488 = .ok (.dup, 1) := by decide +kernel
theorem dX12_init_489 : decode cX12_init 489 = .ok (.bipush 61, 2) := by decide +kernel
theorem dX12_init_491 : decode cX12_init 491 = .ok (.iconst 0, 1) := by decide +kernel
theorem dX12_init_492 : decode cX12_init 492 = .ok (.iastore, 1) := by decide +kernel
theorem dX12_init_493 : decode cX12_init 493 = .ok (.dup, 1) := by decide +kernel
theorem dX12_init_494 : decode cX12_init 494 = .ok (.bipush 62, 2) := by decide +kernel
theorem dX12_init_496 : decode cX12_init 496 = .ok (.iconst 0, 1) := by decide +kernel
theorem dX12_init_497 : decode cX12_init 497 = .ok (.iastore, 1) := by decide +kernel
theorem dX12_init_498 : decode cX12_init 498 = .ok (.dup, 1) := by decide +kernel
theorem dX12_init_499 : decode cX12_init 499 = .ok (.bipush 63, 2) := by decide +kernel
theorem dX12_init_501 : decode cX12_init 501 = .ok (.iconst 0, 1) := by decide +kernel
theorem dX12_init_502 : decode cX12_init 502 = .ok (.iastore, 1) := by decide +kernel
theorem dX12_init_503 : decode cX12_init 503 = .ok (.dup, 1) := by decide +kernel
theorem dX12_init_504 : decode cX12_init 504 = .ok (.bipush 64, 2) := by decide +kernel
theorem dX12_init_506 : decode cX12_init 506 = .ok (.iconst 0, 1) := by decide +kernel
theorem dX12_init_507 : decode cX12_init 507 = .ok (.iastore, 1) := by decide +kernel
theorem dX12_init_508 : decode cX12_init 508 = .ok (.dup, 1) := by decide +kernel
theorem dX12_init_509 : decode cX12_init 509 = .ok (.bipush 65, 2) := by decide +kernel
theorem dX12_init_511 : decode cX12_init 511 = .ok (.iconst 0, 1) := by decide +kernel
theorem dX12_init_512 : decode cX12_init 512 = .ok (.iastore, 1) := by decide +kernel
theorem dX12_init_513 : decode cX12_init 513 = .ok (.dup, 1) := by decide +kernel
theorem dX12_init_514 : decode cX12_init 514 = .ok (.bipush 66, 2) := by decide +kernel
theorem dX12_init_516 : decode cX12_init 516 = .ok (.iconst 0, 1) := by decide +kernel
theorem dX12_init_517 : decode cX12_init 517 = .ok (.iastore, 1) := by decide +kernel
theorem dX12_init_518 : decode cX12_init 518 = .ok (.dup, 1) := by decide +kernel
theorem dX12_init_519 : decode cX12_init 519 = .ok (.bipush 67, 2) := by decide +kernel
theorem dX12_init_521 : decode cX12_init 521 = .ok (.iconst 0, 1) := by decide +kernel
theorem dX12_init_522 : decode cX12_init 522 = .ok (.iastore, 1) := by decide +kernel
theorem dX12_init_523 : decode cX12_init 523 = .ok (.dup, 1) := by decide +kernel
theorem dX12_init_524 : decode cX12_init 524 = .ok (.bipush 68, 2) := by decide +kernel
theorem dX12_init_526 : decode cX12_init 526 = .ok (.iconst 0, 1) := by decide +kernel
theorem dX12_init_527 : decode cX12_init 527 = .ok (.iastore, 1) := by decide +kernel
theorem dX12_init_528 : decode cX12_init 528 = .ok (.dup, 1) := by decide +kernel
theorem dX12_init_529 : decode cX12_init 529 = .ok (.bipush 69, 2) := by decide +kernel
theorem dX12_init_531 : decode cX12_init 531 = .ok (.iconst 0, 1) := by decide +kernel
theorem dX12_init_532 : decode cX12_init 532 = .ok (.iastore, 1) := by decide +kernel
theorem dX12_init_533 : decode cX12_init 533 = .ok (.dup, 1) := by decide +kernel
theorem dX12_init_534 : decode cX12_init 534 = .ok (.bipush 70, 2) := by decide +kernel
theorem dX12_init_536 : decode cX12_init 536 = .ok (.iconst 0, 1) := by decide +kernel
theorem dX12_init_537 : decode cX12_init 537 = .ok (.iastore, 1) := by decide +kernel
theorem dX12_init_538 : decode cX12_init 538 = .ok (.dup, 1) := by decide +kernel
theorem dX12_init_539 : decode cX12_init 539 = .ok (.bipush 71, 2) := by decide +kernel
theorem dX12_init_541 : decode cX12_init 541 = .ok (.iconst 0, 1) := by decide +kernel
theorem dX12_init_542 : decode cX12_init 542 = .ok (.iastore, 1) := by decide +kernel
theorem dX12_init_543 : decode cX12_init 543 = .ok (.dup, 1) := by decide +kernel
theorem dX12_init_544 : decode cX12_init 544 = .ok (.bipush 72, 2) := by decide +kernel
theorem dX12_init_546 : decode cX12_init 546 = .ok (.iconst 0, 1) := by decide +kernel
theorem dX12_init_547 : decode cX12_init 547 = .ok (.iastore, 1) := by decide +kernel
theorem dX12_init_548 : decode cX12_init 548 = .ok (.dup, 1) := by decide +kernel
theorem dX12_init_549 : decode cX12_init 549 = .ok (.bipush 73, 2) := by decide +kernel
theorem dX12_init_551 : decode cX12_init 551 = .ok (.iconst 0, 1) := by decide +kernel
theorem dX12_init_552 : decode cX12_init 552 = .ok (.iastore, 1) := by decide +kernel
theorem dX12_init_553 : decode cX12_init 553 = .ok (.dup, 1) := by decide +kernel
theorem dX12_init_554 : decode cX12_init 554 = .ok (.bipush 74, 2) := by decide +kernel
theorem dX12_init_556 : decode cX12_init 556 = .ok (.iconst 0, 1) := by decide +kernel
theorem dX12_init_557 : decode cX12_init 557 = .ok (.iastore, 1) := by decide +kernel
theorem dX12_init_558 : decode cX12_init 558 = .ok (.dup, 1) := by decide +kernel
theorem dX12_init_559 : decode cX12_init 559 = .ok (.bipush 75, 2) := by decide +kernel
theorem dX12_init_561 : decode cX12_init 561 = .ok (.iconst 0, 1) := by decide +kernel
theorem dX12_init_562 : decode cX12_init 562 = .ok (.iastore, 1) := by decide +kernel
theorem dX12_init_563 : decode cX12_init 563 = .ok (.dup, 1) := by decide +kernel
theorem dX12_init_564 : decode cX12_init 564 = .ok (.bipush 76, 2) := by decide +kernel
theorem dX12_init_566 : decode cX12_init 566 = .ok (.iconst 0, 1) := by decide +kernel
theorem dX12_init_567 : decode cX12_init 567 = .ok (.iastore, 1) := by decide +kernel
theorem dX12_init_568 : decode cX12_init 568 = .ok (.dup, 1) := by decide +kernel
theorem dX12_init_569 : decode cX12_init 569 = .ok (.bipush 77, 2) := by decide +kernel
theorem dX12_init_571 : decode cX12_init 571 = .ok (.iconst 0, 1) := by decide +kernel
theorem dX12_init_572 : decode cX12_init 572 = .ok (.iastore, 1) := by decide +kernel
theorem dX12_init_573 : decode cX12_init 573 = .ok (.dup, 1) := by decide +kernel
theorem dX12_init_574 : decode cX12_init 574 = .ok (.bipush 78, 2) := by decide +kernel
theorem dX12_init_576 : decode cX12_init 576 = .ok (.iconst 0, 1) := by decide +kernel
theorem dX12_init_577 : decode cX12_init 577 = .ok (.iastore, 1) := by decide +kernel
theorem dX12_init_578 : decode cX12_init 578 = .ok (.dup, 1) := by decide +kernel
theorem dX12_init_579 : decode cX12_init 579 = .ok (.bipush 79, 2) := by decide +kernel
theorem dX12_init_581 : decode cX12_init 581 = .ok (.iconst 0, 1) := by decide +kernel
theorem dX12_init_582 : decode cX12_init 582 = .ok (.iastore, 1) := by decide +kernel
theorem dX12_init_583 : decode cX12_init 583 = .ok (.dup, 1) := by decide +kernel
theorem dX12_init_584 : decode cX12_init 584 = .ok (.bipush 80, 2) := by decide +kernel
theorem dX12_init_586 : decode cX12_init 586 = .ok (.iconst 0, 1) := by decide +kernel
theorem dX12_init_587 : decode cX12_init 587 = .ok (.iastore, 1) := by decide +kernel
theorem dX12_init_588 : decode cX12_init 588 = .ok (.dup, 1) := by decide +kernel
theorem dX12_init_589 : decode cX12_init 589 = .ok (.bipush 81, 2) := by decide +kernel
theorem dX12_init_591 : decode cX12_init 591 = .ok (.iconst 0, 1) := by decide +kernel
theorem dX12_init_592 : decode cX12_init 592 = .ok (.iastore, 1) := by decide +kernel
theorem dX12_init_593 : decode cX12_init 593 = .ok (.dup, 1) := by decide +kernel
theorem dX12_init_594 : decode cX12_init 594 = .ok (.bipush 82, 2) := by decide +kernel
theorem dX12_init_596 : decode cX12_init 596 = .ok (.iconst 0, 1) := by decide +kernel
theorem dX12_init_597 : decode cX12_init 597 = .ok (.iastore, 1) := by decide +kernel
theorem dX12_init_598 : decode cX12_init 598 = .ok (.dup, 1) := by decide +kernel
theorem dX12_init_599 : decode cX12_init 599 = .ok (.bipush 83, 2) := by decide +kernel
theorem dX12_init_601 : decode cX12_init 601 = .ok (.iconst 0, 1) := by decide +kernel
theorem dX12_init_602 : decode cX12_init 602 = .ok (.iastore, 1) := by decide +kernel
theorem dX12_init_603 : decode cX12_init 603 = .ok (.dup, 1) := by decide +kernel
theorem dX12_init_604 : decode cX12_init 604 = .ok (.bipush 84, 2) := by decide +kernel
theorem dX12_init_606 : decode cX12_init 606 = .ok (.iconst 0, 1) := by decide +kernel
theorem dX12_init_607 : decode cX12_init 607 = .ok (.iastore, 1) := by decide +kernel
theorem dX12_init_608 : decode cX12_init 608 = .ok (.dup, 1) := by decide +kernel
theorem dX12_init_609 : decode cX12_init 609 = .ok (.bipush 85, 2) := by decide +kernel
theorem dX12_init_611 : decode cX12_init 611 = .ok (.iconst 0, 1) := by decide +kernel
theorem dX12_init_612 : decode cX12_init 612 = .ok (.iastore, 1) := by decide +kernel
theorem dX12_init_613 : decode cX12_init 613 = .ok (.dup, 1) := by decide +kernel
theorem dX12_init_614 : decode cX12_init 614 = .ok (.bipush 86, 2) := by decide +kernel
theorem dX12_init_616 : decode cX12_init 616 = .ok (.iconst 0, 1) := by decide +kernel
theorem dX12_init_617 : decode cX12_init 617 = .ok (.iastore, 1) := by decide +kernel
theorem dX12_init_618 : decode cX12_init 618 = .ok (.dup, 1) := by decide +kernel
theorem dX12_init_619 : decode cX12_init 619 = .ok (.bipush 87, 2) := by decide +kernel
theorem dX12_init_621 : decode cX12_init 621 = .ok (.iconst 0, 1) := by decide +kernel
theorem dX12_init_622 : decode cX12_init 622 = .ok (.iastore, 1) := by decide +kernel
theorem dX12_init_623 : decode cX12_init 623 = .ok (.dup, 1) := by decide +kernel
theorem dX12_init_624 : decode cX12_init 624 = .ok (.bipush 88, 2) := by decide +kernel
theorem dX12_init_626 : decode cX12_init 626 = .ok (.iconst 0, 1) := by decide +kernel
theorem dX12_init_627 : decode cX12_init 627 = .ok (.iastore, 1) := by decide +kernel
theorem dX12_init_628 : decode cX12_init 628 = .ok (.dup, 1) := by decide +kernel
theorem dX12_init_629 : decode cX12_init 629 = .ok (.bipush 89, 2) := by decide +kernel
theorem dX12_init_631 : decode cX12_init 631 = .ok (.iconst 0, 1) := by decide +kernel
theorem dX12_init_632 : decode cX12_init 632 = .ok (.iastore, 1) := by decide +kernel
theorem dX12_init_633 : decode cX12_init 633 = .ok (.dup, 1) := by decide +kernel
theorem dX12_init_634 : decode cX12_init 634 = .ok (.bipush 90, 2) := by decide +kernel
theorem dX12_init_636 : decode cX12_init 636 = .ok (.iconst 0, 1) := by decide +kernel
theorem dX12_init_637 : decode cX12_init 637 = .ok (.iastore, 1) := by decide +kernel
theorem dX12_init_638 : decode cX12_init 638 = .ok (.dup, 1) := by decide +kernel
theorem dX12_init_639 : decode cX12_init 639 = .ok (.bipush 91, 2) := by decide +kernel
theorem dX12_init_641 : decode cX12_init 641 = .ok (.iconst 0, 1) := by decide +kernel
theorem dX12_init_642 : decode cX12_init 642 = .ok (.iastore, 1) := by decide +kernel
theorem dX12_init_643 : decode cX12_init 643 = .ok (.dup, 1) := by decide +kernel
theorem dX12_init_644 : decode cX12_init 644 = .ok (.bipush 92, 2) := by decide +kernel
theorem dX12_init_646 : decode cX12_init 646 = .ok (.iconst 0, 1) := by decide +kernel
theorem dX12_init_647 : decode cX12_init 647 = .ok (.iastore, 1) := by decide +kernel
theorem dX12_init_648 : decode cX12_init 648 = .ok (.dup, 1) := by decide +kernel
theorem dX12_init_649 : decode cX12_init 649 = .ok (.bipush 93, 2) := by decide +kernel
theorem dX12_init_651 : decode cX12_init 651 = .ok (.iconst 0, 1) := by decide +kernel
theorem dX12_init_652 : decode cX12_init 652 = .ok (.iastore, 1) := by decide +kernel
theorem dX12_init_653 : decode cX12_init 653 = .ok (.dup, 1) := by decide +kernel
theorem dX12_init_654 : decode cX12_init 654 = .ok (.bipush 94, 2) := by decide +kernel
theorem dX12_init_656 : decode cX12_init 656 = .ok (.iconst 0, 1) := by decide +kernel
theorem dX12_init_657 : decode cX12_init 657 = .ok (.iastore, 1) := by decide +kernel
theorem dX12_init_658 : decode cX12_init 658 = .ok (.dup, 1) := by decide +kernel
theorem dX12_init_659 : decode cX12_init 659 = .ok (.bipush 95, 2) := by decide +kernel
theorem dX12_init_661 : decode cX12_init 661 = .ok (.iconst 0, 1) := by decide +kernel
theorem dX12_init_662 : decode cX12_init 662 = .ok (.iastore, 1) := by decide +kernel
theorem dX12_init_663 : decode cX12_init 663 = .ok (.dup, 1) := by decide +kernel
theorem dX12_init_664 : decode cX12_init 664 = .ok (.bipush 96, 2) := by decide +kernel
theorem dX12_init_666 : decode cX12_init 666 = .ok (.iconst 0, 1) := by decide +kernel
theorem dX12_init_667 : decode cX12_init 667 = .ok (.iastore, 1) := by decide +kernel
theorem dX12_init_668 : decode cX12_init 668 = .ok (.dup, 1) := by decide +kernel
theorem dX12_init_669 : decode cX12_init 669 = .ok (.bipush 97, 2) := by decide +kernel
theorem dX12_init_671 : decode cX12_init 671 = .ok (.iconst 0, 1) := by decide +kernel
theorem dX12_init_672 : decode cX12_init 672 = .ok (.iastore, 1) := by decide +kernel
theorem dX12_init_673 : decode cX12_init 673 = .ok (.dup, 1) := by decide +kernel
theorem dX12_init_674 : decode cX12_init 674 = .ok (.bipush 98, 2) := by decide +kernel
theorem dX12_init_676 : decode cX12_init 676 = .ok (.iconst 0, 1) := by decide +kernel
theorem dX12_init_677 : decode cX12_init 677 = .ok (.iastore, 1) := by decide +kernel
theorem dX12_init_678 : decode cX12_init 678 = .ok (.dup, 1) := by decide +kernel
theorem dX12_init_679 : decode cX12_init 679 = .ok (.bipush 99, 2) := by decide +kernel
theorem dX12_init_681 : decode cX12_init 681 = .ok (.iconst 0, 1) := by decide +kernel
theorem dX12_init_682 : decode cX12_init 682 = .ok (.iastore, 1) := by decide +kernel
theorem dX12_init_683 : decode cX12_init 683 = .ok (.dup, 1) := by decide +kernel
theorem dX12_init_684 : decode cX12_init 684 = .ok (.bipush 100, 2) := by decide +kernel
theorem dX12_init_686 : decode cX12_init 686 = .ok (.iconst 0, 1) := by decide +kernel
theorem dX12_init_687 : decode cX12_init 687 = .ok (.iastore, 1) := by decide +kernel
theorem dX12_init_688 : decode cX12_init 688 = .ok (.dup, 1) := by decide +kernel
theorem dX12_init_689 : decode cX12_init 689 = .ok (.bipush 101, 2) := by decide +kernel
theorem dX12_init_691 : decode cX12_init 691 = .ok (.iconst 0, 1) := by decide +kernel
theorem dX12_init_692 : decode cX12_init 692 = .ok (.iastore, 1) := by decide +kernel
theorem dX12_init_693 : decode cX12_init 693 = .ok (.dup, 1) := by decide +kernel
theorem dX12_init_694 : decode cX12_init 694 = .ok (.bipush 102, 2) := by decide +kernel
theorem dX12_init_696 : decode cX12_init 696 = .ok (.iconst 0, 1) := by decide +kernel
theorem dX12_init_697 : decode cX12_init 697 = .ok (.iastore, 1) := by decide +kernel
theorem dX12_init_698 : decode cX12_init 698 = .ok (.dup, 1) := by decide +kernel
theorem dX12_init_699 : decode cX12_init 699 = .ok (.bipush 103, 2) := by decide +kernel
theorem dX12_init_701 : decode cX12_init 701 = .ok (.iconst 0, 1) := by decide +kernel
theorem dX12_init_702 : decode cX12_init 702 = .ok (.iastore, 1) := by decide +kernel
theorem dX12_init_703 : decode cX12_init 703 = .ok (.dup, 1) := by decide +kernel
theorem dX12_init_704 : decode cX12_init 704 = .ok (.bipush 104, 2) := by decide +kernel
theorem dX12_init_706 : decode cX12_init 706 = .ok (.iconst 0, 1) := by decide +kernel
theorem dX12_init_707 : decode cX12_init 707 = .ok (.iastore, 1) := by decide +kernel
theorem dX12_init_708 : decode cX12_init 708 = .ok (.dup, 1) := by decide +kernel
theorem dX12_init_709 : decode cX12_init 709 = .ok (.bipush 105, 2) := by decide +kernel
theorem dX12_init_711 : decode cX12_init 711 = .ok (.iconst 0, 1) := by decide +kernel
theorem dX12_init_712 : decode cX12_init 712 = .ok (.iastore, 1) := by decide +kernel
theorem dX12_init_713 : decode cX12_init 713 = .ok (.dup, 1) := by decide +kernel
theorem dX12_init_714 : decode cX12_init 714 = .ok (.bipush 106, 2) := by decide +kernel
theorem dX12_init_716 : decode cX12_init 716 = .ok (.iconst 0, 1) := by decide +kernel
theorem dX12_init_717 : decode cX12_init 717 = .ok (.iastore, 1) := by decide +kernel
theorem dX12_init_718 : decode cX12_init 718 = .ok (.dup, 1) := by decide +kernel
theorem dX12_init_719 : decode cX12_init 719 = .ok (.bipush 107, 2) := by decide +kernel
theorem dX12_init_721 : decode cX12_init 721 = .ok (.iconst 0, 1) := by decide +kernel
theorem dX12_init_722 : decode cX12_init 722 = .ok (.iastore, 1) := by decide +kernel
theorem dX12_init_723 : decode cX12_init 723 = .ok (.dup, 1) := by decide +kernel
theorem dX12_init_724 : decode cX12_init 724 = .ok (.bipush 108, 2) := by decide +kernel
theorem dX12_init_726 : decode cX12_init 726 = .ok (.iconst 0, 1) := by decide +kernel
theorem dX12_init_727 : decode cX12_init 727 = .ok (.iastore, 1) := by decide +kernel
theorem dX12_init_728 : decode cX12_init 728 = .ok (.dup, 1) := by decide +kernel
theorem dX12_init_729 : decode cX12_init 729 = .ok (.bipush 109, 2) := by decide +kernel
theorem dX12_init_731 : decode cX12_init 731 = .ok (.iconst 0, 1) := by decide +kernel
theorem dX12_init_732 : decode cX12_init 732 = .ok (.iastore, 1) := by decide +kernel
theorem dX12_init_733 : decode cX12_init 733 = .ok (.dup, 1) := by decide +kernel
theorem dX12_init_734 : decode cX12_init 734 = .ok (.bipush 110, 2) := by decide +kernel
theorem dX12_init_736 : decode cX12_init 736 = .ok (.iconst 0, 1) := by decide +kernel
theorem dX12_init_737 : decode cX12_init 737 = .ok (.iastore, 1) := by decide +kernel
theorem dX12_init_738 : decode cX12_init 738 = .ok (.dup, 1) := by decide +kernel
theorem dX12_init_739 : decode cX12_init 739 = .ok (.bipush 111, 2) := by decide +kernel
theorem dX12_init_741 : decode cX12_init 741 = .ok (.iconst 0, 1) := by decide +kernel
theorem dX12_init_742 : decode cX12_init 742 = .ok (.iastore, 1) := by decide +kernel
theorem dX12_init_743 : decode cX12_init 743 = .ok (.dup, 1) := by decide +kernel
theorem dX12_init_744 : decode cX12_init 744 = .ok (.bipush 112, 2) := by decide +kernel
theorem dX12_init_746 : decode cX12_init 746 = .ok (.iconst 0, 1) := by decide +kernel
theorem dX12_init_747 : decode cX12_init 747 = .ok (.iastore, 1) := by decide +kernel
theorem dX12_init_748 : decode cX12_init 748 = .ok (.dup, 1) := by decide +kernel
theorem dX12_init_749 : decode cX12_init 749 = .ok (.bipush 113, 2) := by decide +kernel
theorem dX12_init_751 : decode cX12_init 751 = .ok (.iconst 0, 1) := by decide +kernel
theorem dX12_init_752 : decode cX12_init 752 = .ok (.iastore, 1) := by decide +kernel
theorem dX12_init_753 : decode cX12_init 753 = .ok (.dup, 1) := by decide +kernel
theorem dX12_init_754 : decode cX12_init 754 = .ok (.bipush 114, 2) := by decide +kernel
theorem dX12_init_756 : decode cX12_init 756 = .ok (.iconst 0, 1) := by decide +kernel
theorem dX12_init_757 : decode cX12_init 757 = .ok (.iastore, 1) := by decide +kernel
theorem dX12_init_758 : decode cX12_init 758 = .ok (.dup, 1) := by decide +kernel
theorem dX12_init_759 : decode cX12_init 759 = .ok (.bipush 115, 2) := by decide +kernel
theorem dX12_init_761 : decode cX12_init 761 = .ok (.iconst 0, 1) := by decide +kernel
theorem dX12_init_762 : decode cX12_init 762 = .ok (.iastore, 1) := by decide +kernel
theorem dX12_init_763 : decode cX12_init 763 = .ok (.dup, 1) := by decide +kernel
theorem dX12_init_764 : decode cX12_init 764 = .ok (.bipush 116, 2) := by decide +kernel
theorem dX12_init_766 : decode cX12_init 766 = .ok (.iconst 0, 1) := by decide +kernel
theorem dX12_init_767 : decode cX12_init 767 = .ok (.iastore, 1) := by decide +kernel
theorem dX12_init_768 : decode cX12_init 768 = .ok (.dup, 1) := by decide +kernel
theorem dX12_init_769 : decode cX12_init 769 = .ok (.bipush 117, 2) := by decide +kernel
theorem dX12_init_771 : decode cX12_init 771 = .ok (.iconst 0, 1) := by decide +kernel
theorem dX12_init_772 : decode cX12_init 772 = .ok (.iastore, 1) := by decide +kernel
theorem dX12_init_773 : decode cX12_init 773 = .ok (.dup, 1) := by decide +kernel
theorem dX12_init_774 : decode cX12_init 774 = .ok (.bipush 118, 2) := by decide +kernel
theorem dX12_init_776 : decode cX12_init 776 = .ok (.iconst 0, 1) := by decide +kernel
theorem dX12_init_777 : decode cX12_init 777 = .ok (.iastore, 1) := by decide +kernel
theorem dX12_init_778 : decode cX12_init 778 = .ok (.dup, 1) := by decide +kernel
theorem dX12_init_779 : decode cX12_init 779 = .ok (.bipush 119, 2) := by decide +kernel
theorem dX12_init_781 : decode cX12_init 781 = .ok (.iconst 0, 1) := by decide +kernel
theorem dX12_init_782 : decode cX12_init 782 = .ok (.iastore, 1) := by decide +kernel
theorem dX12_init_783 : decode cX12_init 783 = .ok (.dup, 1) := by decide +kernel
theorem dX12_init_784 : decode cX12_init 784 = .ok (.bipush 120, 2) := by decide +kernel
theorem dX12_init_786 : decode cX12_init 786 = .ok (.iconst 0, 1) := by decide +kernel
theorem dX12_init_787 : decode cX12_init 787 = .ok (.iastore, 1) := by decide +kernel
theorem dX12_init_788 : decode cX12_init 788 = .ok (.dup, 1) := by decide +kernel
theorem dX12_init_789 : decode cX12_init 789 = .ok (.bipush 121, 2) := by decide +kernel
theorem dX12_init_791 : decode cX12_init 791 = .ok (.iconst 0, 1) := by decide +kernel
theorem dX12_init_792 : decode cX12_init 792 = .ok (.iastore, 1) := by decide +kernel
theorem dX12_init_793 : decode cX12_init 793 = .ok (.dup, 1) := by decide +kernel
theorem dX12_init_794 : decode cX12_init 794 = .ok (.bipush 122, 2) := by decide +kernel
theorem dX12_init_796 : decode cX12_init 796 = .ok (.iconst 0, 1) := by decide +kernel
theorem dX12_init_797 : decode cX12_init 797 = .ok (.iastore, 1) := by decide +kernel
theorem dX12_init_798 : decode cX12_init 798 = .ok (.dup, 1) := by decide +kernel
theorem dX12_init_799 : decode cX12_init 799 = .ok (.bipush 123, 2) := by decide +kernel
theorem dX12_init_801 : decode cX12_init 801 = .ok (.iconst 0, 1) := by decide +kernel
theorem dX12_init_802 : decode cX12_init 802 = .ok (.iastore, 1) := by decide +kernel
theorem dX12_init_803 : decode cX12_init 803 = .ok (.dup, 1) := by decide +kernel
theorem dX12_init_804 : decode cX12_init 804 = .ok (.bipush 124, 2) := by decide +kernel
theorem dX12_init_806 : decode cX12_init 806 = .ok (.iconst 0, 1) := by decide +kernel
theorem dX12_init_807 : decode cX12_init 807 = .ok (.iastore, 1) := by decide +kernel
theorem dX12_init_808 : decode cX12_init 808 = .ok (.dup, 1) := by decide +kernel
theorem dX12_init_809 : decode cX12_init 809 = .ok (.bipush 125, 2) := by decide +kernel
theorem dX12_init_811 : decode cX12_init 811 = .ok (.iconst 0, 1) := by decide +kernel
theorem dX12_init_812 : decode cX12_init 812 = .ok (.iastore, 1) := by decide +kernel
theorem dX12_init_813 : decode cX12_init 813 = .ok (.dup, 1) := by decide +kernel
theorem dX12_init_814 : decode cX12_init 814 = .ok (.bipush 126, 2) := by decide +kernel
theorem dX12_init_816 : decode cX12_init 816 = .ok (.iconst 0, 1) := by decide +kernel
theorem dX12_init_817 : decode cX12_init 817 = .ok (.iastore, 1) := by decide +kernel
theorem dX12_init_818 : decode cX12_init 818 = .ok (.dup, 1) := by decide +kernel
theorem dX12_init_819 : decode cX12_init 819 = .ok (.bipush 127, 2) := by decide +kernel
theorem dX12_init_821 : decode cX12_init 821 = .ok (.iconst 0, 1) := by decide +kernel
theorem dX12_init_822 : decode cX12_init 822 = .ok (.iastore, 1) := by decide +kernel
theorem dX12_init_823 : decode cX12_init 823 = .ok (.dup, 1) := by decide +kernel
theorem dX12_init_824 : decode cX12_init 824 = .ok (.sipush 128, 3) := by decide +kernel
theorem dX12_init_827 : decode cX12_init 827 = .ok (.iconst 0, 1) := by decide +kernel
theorem dX12_init_828 : decode cX12_init 828 = .ok (.iastore, 1) := by decide +kernel
theorem dX12_init_829 : decode cX12_init 829 = .ok (.dup, 1) := by decide +kernel
theorem dX12_init_830 : decode cX12_init 830 = .ok (.sipush 129, 3) := by decide +kernel
theorem dX12_init_833 : decode cX12_init 833 = .ok (.iconst 0, 1) := by decide +kernel
theorem dX12_init_834 : decode cX12_init 834 = .ok (.iastore, 1) := by decide +kernel
theorem dX12_init_835 : decode cX12_init 835 = .ok (.dup, 1) := by decide +kernel
theorem dX12_init_836 : decode cX12_init 836 = .ok (.sipush 130, 3) := by decide +kernel
theorem dX12_init_839 : decode cX12_init 839 = .ok (.iconst 0, 1) := by decide +kernel
theorem dX12_init_840 : decode cX12_init 840 = .ok (.iastore, 1) := by decide +kernel
theorem dX12_init_841 : decode cX12_init 841 = .ok (.dup, 1) := by decide +kernel
theorem dX12_init_842 : decode cX12_init 842 = .ok (.sipush 131, 3) := by decide +kernel
theorem dX12_init_845 : decode cX12_init 845 = .ok (.iconst 0, 1) := by decide +kernel
theorem dX12_init_846 : decode cX12_init 846 = .ok (.iastore, 1) := by decide +kernel
theorem dX12_init_847 : decode cX12_init 847 = .ok (.dup, 1) := by decide +kernel
theorem dX12_init_848 : decode cX12_init 848 = .ok (.sipush 132, 3) := by decide +kernel
theorem dX12_init_851 : decode cX12_init 851 = .ok (.iconst 0, 1) := by decide +kernel
theorem dX12_init_852 : decode cX12_init 852 = .ok (.iastore, 1) := by decide +kernel
theorem dX12_init_853 : decode cX12_init 853 = .ok (.dup, 1) := by decide +kernel
theorem dX12_init_854 : decode cX12_init 854 = .ok (.sipush 133, 3) := by decide +kernel
theorem dX12_init_857 : decode cX12_init 857 = .ok (.iconst 0, 1) := by decide +kernel
theorem dX12_init_858 : decode cX12_init 858 = .ok (.iastore, 1) := by decide +kernel
theorem dX12_init_859 : decode cX12_init 859 = .ok (.dup, 1) := by decide +kernel
theorem dX12_init_860 : decode cX12_init 860 = .ok (.sipush 134, 3) := by decide +kernel
theorem dX12_init_863 : decode cX12_init 863 = .ok (.iconst 0, 1) := by decide +kernel
theorem dX12_init_864 : decode cX12_init 864 = .ok (.iastore, 1) := by decide +kernel
theorem dX12_init_865 : decode cX12_init 865 = .ok (.dup, 1) := by decide +kernel
theorem dX12_init_866 : decode cX12_init 866 = .ok (.sipush 135, 3) := by decide +kernel
theorem dX12_init_869 : decode cX12_init 869 = .ok (.iconst 0, 1) := by decide +kernel
theorem dX12_init_870 : decode cX12_init 870 = .ok (.iastore, 1) := by decide +kernel
theorem dX12_init_871 : decode cX12_init 871 = .ok (.dup, 1) := by decide +kernel
theorem dX12_init_872 : decode cX12_init 872 = .ok (.sipush 136, 3) := by decide +kernel
theorem dX12_init_875 : decode cX12_init 875 = .ok (.iconst 0, 1) := by decide +kernel
theorem dX12_init_876 : decode cX12_init 876 = .ok (.iastore, 1) := by decide +kernel
theorem dX12_init_877 : decode cX12_init 877 = .ok (.dup, 1) := by decide +kernel
theorem dX12_init_878 : decode cX12_init 878 = .ok (.sipush 137, 3) := by decide +kernel
theorem dX12_init_881 : decode cX12_init 881 = .ok (.iconst 0, 1) := by decide +kernel
theorem dX12_init_882 : decode cX12_init 882 = .ok (.iastore, 1) := by decide +kernel
theorem dX12_init_883 : decode cX12_init 883 = .ok (.dup, 1) := by decide +kernel
theorem dX12_init_884 : decode cX12_init 884 = .ok (.sipush 138, 3) := by decide +kernel
theorem dX12_init_887 : decode cX12_init 887 = .ok (.iconst 0, 1) := by decide +kernel
theorem dX12_init_888 : decode cX12_init 888 = .ok (.iastore, 1) := by decide +kernel
theorem dX12_init_889 : decode cX12_init 889 = .ok (.dup, 1) := by decide +kernel
theorem dX12_init_890 : decode cX12_init 890 = .ok (.sipush 139, 3) := by decide +kernel
theorem dX12_init_893 : decode cX12_init 893 = .ok (.iconst 0, 1) := by decide +kernel
theorem dX12_init_894 : decode cX12_init 894 = .ok (.iastore, 1) := by decide +kernel
theorem dX12_init_895 : decode cX12_init 895 = .ok (.dup, 1) := by decide +kernel
theorem dX12_init_896 : decode cX12_init 896 = .ok (.sipush 140, 3) := by decide +kernel
theorem dX12_init_899 : decode cX12_init 899 = .ok (.iconst 0, 1) := by decide +kernel
theorem dX12_init_900 : decode cX12_init 900 = .ok (.iastore, 1) := by decide +kernel
theorem dX12_init_901 : decode cX12_init 901 = .ok (.dup, 1) := by decide +kernel
theorem dX12_init_902 : decode cX12_init 902 = .ok (.sipush 141, 3) := by decide +kernel
theorem dX12_init_905 : decode cX12_init 905 = .ok (.iconst 0, 1) := by decide +kernel
theorem dX12_init_906 : decode cX12_init 906 = .ok (.iastore, 1) := by decide +kernel
theorem dX12_init_907 : decode cX12_init 907 = .ok (.dup, 1) := by decide +kernel
theorem dX12_init_908 : decode cX12_init 908 = .ok (.sipush 142, 3) := by decide +kernel
theorem dX12_init_911 : decode cX12_init 911 = .ok (.iconst 0, 1) := by decide +kernel
theorem dX12_init_912 : decode cX12_init 912 = .ok (.iastore, 1) := by decide +kernel
theorem dX12_init_913 : decode cX12_init 913 = .ok (.dup, 1) := by decide +kernel
theorem dX12_init_914 : decode cX12_init 914 = .ok (.sipush 143, 3) := by decide +kernel
theorem dX12_init_917 : decode cX12_init 917 = .ok (.iconst 0, 1) := by decide +kernel
theorem dX12_init_918 : decode cX12_init 918 = .ok (.iastore, 1) := by decide +kernel
theorem dX12_init_919 : decode cX12_init 919 = .ok (.dup, 1) := by decide +kernel
theorem dX12_init_920 : decode cX12_init 920 = .ok (.sipush 144, 3) := by decide +kernel
theorem dX12_init_923 : decode cX12_init 923 = .ok (.iconst 0, 1) := by decide +kernel
theorem dX12_init_924 : decode cX12_init 924 = .ok (.iastore, 1) := by decide +kernel
theorem dX12_init_925 : decode cX12_init 925 = .ok (.dup, 1) := by decide +kernel
theorem dX12_init_926 : decode cX12_init 926 = .ok (.sipush 145, 3) := by decide +kernel
theorem dX12_init_929 : decode cX12_init 929 = .ok (.iconst 0, 1) := by decide +kernel
theorem dX12_init_930 : decode cX12_init 930 = .ok (.iastore, 1) := by decide +kernel
theorem dX12_init_931 : decode cX12_init 931 = .ok (.dup, 1) := by decide +kernel
theorem dX12_init_932 : decode cX12_init 932 = .ok (.sipush 146, 3) := by decide +kernel
theorem dX12_init_935 : decode cX12_init 935 = .ok (.iconst 0, 1) := by decide +kernel
theorem dX12_init_936 : decode cX12_init 936 = .ok (.iastore, 1) := by decide +kernel
theorem dX12_init_937 : decode cX12_init 937 = .ok (.dup, 1) := by decide +kernel
theorem dX12_init_938 : decode cX12_init 938 = .ok (.sipush 147, 3) := by decide +kernel
theorem dX12_init_941 : decode cX12_init 941 = .ok (.iconst 0, 1) := by decide +kernel
theorem dX12_init_942 : decode cX12_init 942 = .ok (.iastore, 1) := by decide +kernel
theorem dX12_init_943 : decode cX12_init 943 = .ok (.dup, 1) := by decide +kernel
theorem dX12_init_944 : decode cX12_init 944 = .ok (.sipush 148, 3) := by decide +kernel
theorem dX12_init_947 : decode cX12_init 947 = .ok (.iconst 0, 1) := by decide +kernel
theorem dX12_init_948 : decode cX12_init 948 = .ok (.iastore, 1) := by decide +kernel
theorem dX12_init_949 : decode cX12_init 949 = .ok (.dup, 1) := by decide +kernel
theorem dX12_init_950 : decode cX12_init 950 = .ok (.sipush 149, 3) := by decide +kernel
theorem dX12_init_953 : decode cX12_init 953 = .ok (.iconst 0, 1) := by decide +kernel
theorem dX12_init_954 : decode cX12_init 954 = .ok (.iastore, 1) := by decide +kernel
theorem dX12_init_955 : decode cX12_init 955 = .ok (.putfield 75, 3) := by decide +kernel
theorem dX12_init_958 : decode cX12_init 958 = .ok (.aload_n 0, 1) := by decide +kernel
theorem dX12_init_959 : decode cX12_init 959 = .ok (.bipush 96, 2) := by decide +kernel
theorem dX12_init_961 : decode cX12_init 961 = .ok (.newarray .int, 2) := by decide +kernel
theorem dX12_init_963 : decode cX12_init 963 = .ok (.dup, 1) := by decide +kernel
theorem dX12_init_964 : decode cX12_init 964 = .ok (.iconst 0, 1) := by decide +kernel
theorem dX12_init_965 : decode cX12_init 965 = .ok (.bipush 32, 2) := by decide +kernel
theorem dX12_init_967 : decode cX12_init 967 = .ok (.iastore, 1) := by decide +kernel
theorem dX12_init_968 : decode cX12_init 968 = .ok (.dup, 1) := by decide +kernel
theorem dX12_init_969 : decode cX12_init 969 = .ok (.iconst 1, 1) := by decide +kernel
theorem dX12_init_970 : decode cX12_init 970 = .ok (.bipush 112, 2) := by decide +kernel
theorem dX12_init_972 : decode cX12_init 972 = .ok (.iastore, 1) := by decide +kernel
theorem dX12_init_973 : decode cX12_init 973 = .ok (.dup, 1) := by decide +kernel
theorem dX12_init_974 : decode cX12_init 974 = .ok (.iconst 2, 1) := by decide +kernel
theorem dX12_init_975 : decode cX12_init 975 = .ok (.bipush 111, 2) := by decide +kernel
theorem dX12_init_977 : decode cX12_init 977 = .ok (.iastore, 1) := by decide +kernel
theorem dX12_init_978 : decode cX12_init 978 = .ok (.dup, 1) := by decide +kernel
theorem dX12_init_979 : decode cX12_init 979 = .ok (.iconst 3, 1) := by decide +kernel
theorem dX12_init_980 : decode cX12_init 980 = .ok (.bipush 115, 2) := by decide +kernel
theorem dX12_init_982 : decode cX12_init 982 = .ok (.iastore, 1) := by decide +kernel
theorem dX12_init_983 : decode cX12_init 983 = .ok (.dup, 1) := by decide +kernel
theorem dX12_init_984 : decode cX12_init 984 = .ok (.iconst 4, 1) := by decide +kernel
theorem dX12_init_985 : decode cX12_init 985 = .ok (.bipush 116, 2) := by decide +kernel
theorem dX12_init_987 : decode cX12_init 987 = .ok (.iastore, 1) := by decide +kernel
theorem dX12_init_988 : decode cX12_init 988 = .ok (.dup, 1) := by decide +kernel
theorem dX12_init_989 : decode cX12_init 989 = .ok (.iconst 5, 1) := by decide +kernel
theorem dX12_init_990 : decode cX12_init 990 = .ok (.bipush 32, 2) := by decide +kernel
theorem dX12_init_992 : decode cX12_init 992 = .ok (.iastore, 1) := by decide +kernel
theorem dX12_init_993 : decode cX12_init 993 = .ok (.dup, 1) := by decide +kernel
theorem dX12_init_994 : decode cX12_init 994 = .ok (.bipush 6, 2) := by decide +kernel
theorem dX12_init_996 : decode cX12_init 996 = .ok (.bipush 98, 2) := by decide +kernel
theorem dX12_init_998 : decode cX12_init 998 = .ok (.iastore, 1) := by decide +kernel
theorem dX12_init_999 : decode cX12_init 999 = .ok (.dup, 1) := by decide +kernel
theorem dX12_init_1000 : decode cX12_init 1000 = .ok (.bipush 7, 2) := by decide +kernel
theorem dX12_init_1002 : decode cX12_init 1002 = .ok (.bipush 101, 2) := by decide +kernel
theorem dX12_init_1004 : decode cX12_init 1004 = .ok (.iastore, 1) := by decide +kernel
theorem dX12_init_1005 : decode cX12_init 1005 = .ok (.dup, 1) := by decide +kernel
theorem dX12_init_1006 : decode cX12_init 1006 = .ok (.bipush 8, 2) := by decide +kernel
theorem dX12_init_1008 : decode cX12_init 1008 = .ok (.bipush 97, 2) := by decide +kernel
theorem dX12_init_1010 : decode cX12_init 1010 = .ok (.iastore, 1) := by decide +kernel
theorem dX12_init_1011 : decode cX12_init 1011 = .ok (.dup, 1) := by decide +kernel
theorem dX12_init_1012 : decode cX12_init 1012 = .ok (.bipush 9, 2) := by decide +kernel
theorem dX12_init_1014 : decode cX12_init 1014 = .ok (.bipush 109, 2) := by decide +kernel
theorem dX12_init_1016 : decode cX12_init 1016 = .ok (.iastore, 1) := by decide +kernel
theorem dX12_init_1017 : decode cX12_init 1017 = .ok (.dup, 1) := by decide +kernel
theorem dX12_init_1018 : decode cX12_init 1018 = .ok (.bipush 10, 2) := by decide +kernel
theorem dX12_init_1020 : decode cX12_init 1020 = .ok (.bipush 32, 2) := by decide +kernel
theorem dX12_init_1022 : decode cX12_init 1022 = .ok (.iastore, 1) := by decide +kernel
theorem dX12_init_1023 : decode cX12_init 1023 = .ok (.dup, 1) := by decide +kernel
theorem dX12_init_1024 : decode cX12_init 1024 = .ok (.bipush 11, 2) := by decide +kernel
theorem dX12_init_1026 : decode cX12_init 1026 = .ok (.bipush 114, 2) := by decide +kernel
theorem dX12_init_1028 : decode cX12_init 1028 = .ok (.iastore, 1) := by decide +kernel
theorem dX12_init_1029 : decode cX12_init 1029 = .ok (.dup, 1) := by decide +kernel
theorem dX12_init_1030 : decode cX12_init 1030 = .ok (.bipush 12, 2) := by decide +kernel
theorem dX12_init_1032 : decode cX12_init 1032 = .ok (.bipush 97, 2) := by decide +kernel
theorem dX12_init_1034 : decode cX12_init 1034 = .ok (.iastore, 1) := by decide +kernel
theorem dX12_init_1035 : decode cX12_init 1035 = .ok (.dup, 1) := by decide +kernel
theorem dX12_init_1036 : decode cX12_init 1036 = .ok (.bipush 13, 2) := by decide +kernel
theorem dX12_init_1038 : decode cX12_init 1038 = .ok (.bipush 102, 2) := by decide +kernel
theorem dX12_init_1040 : decode cX12_init 1040 = .ok (.iastore, 1) := by decide +kernel
theorem dX12_init_1041 : decode cX12_init 1041 = .ok (.dup, 1) := by decide +kernel
theorem dX12_init_1042 : decode cX12_init 1042 = .ok (.bipush 14, 2) := by decide +kernel
theorem dX12_init_1044 : decode cX12_init 1044 = .ok (.bipush 116, 2) := by decide +kernel
theorem dX12_init_1046 : decode cX12_init 1046 = .ok (.iastore, 1) := by decide +kernel
theorem dX12_init_1047 : decode cX12_init 1047 = .ok (.dup, 1) := by decide +kernel
theorem dX12_init_1048 : decode cX12_init 1048 = .ok (.bipush 15, 2) := by decide +kernel
theorem dX12_init_1050 : decode cX12_init 1050 = .ok (.bipush 101, 2) := by decide +kernel
theorem dX12_init_1052 : decode cX12_init 1052 = .ok (.iastore, 1) := by decide +kernel
theorem dX12_init_1053 : decode cX12_init 1053 = .ok (.dup, 1) := by decide +kernel
theorem dX12_init_1054 : decode cX12_init 1054 = .ok (.bipush 16, 2) := by decide +kernel
theorem dX12_init_1056 : decode cX12_init 1056 = .ok (.bipush 114, 2) := by decide +kernel
theorem dX12_init_1058 : decode cX12_init 1058 = .ok (.iastore, 1) := by decide +kernel
theorem dX12_init_1059 : decode cX12_init 1059 = .ok (.dup, 1) := by decide +kernel
theorem dX12_init_1060 : decode cX12_init 1060 = .ok (.bipush 17, 2) := by decide +kernel
theorem dX12_init_1062 : decode cX12_init 1062 = .ok (.bipush 32, 2) := by decide +kernel
theorem dX12_init_1064 : decode cX12_init 1064 = .ok (.iastore, 1) := by decide +kernel
theorem dX12_init_1065 : decode cX12_init 1065 = .ok (.dup, 1) := by decide +kernel
theorem dX12_init_1066 : decode cX12_init 1066 = .ok (.bipush 18, 2) := by decide +kernel
theorem dX12_init_1068 : decode cX12_init 1068 = .ok (.bipush 98, 2) := by decide +kernel
theorem dX12_init_1070 : decode cX12_init 1070 = .ok (.iastore, 1) := by decide +kernel
theorem dX12_init_1071 : decode cX12_init 1071 = .ok (.dup, 1) := by decide +kernel
theorem dX12_init_1072 : decode cX12_init 1072 = .ok (.bipush 19, 2) := by decide +kernel
theorem dX12_init_1074 : decode cX12_init 1074 = .ok (.bipush 114, 2) := by decide +kernel
theorem dX12_init_1076 : decode cX12_init 1076 = .ok (.iastore, 1) := by decide +kernel
theorem dX12_init_1077 : decode cX12_init 1077 = .ok (.dup, 1) := by decide +kernel
theorem dX12_init_1078 : decode cX12_init 1078 = .ok (.bipush 20, 2) := by decide +kernel
theorem dX12_init_1080 : decode cX12_init 1080 = .ok (.bipush 97, 2) := by decide +kernel
theorem dX12_init_1082 : decode cX12_init 1082 = .ok (.iastore, 1) := by decide +kernel
theorem dX12_init_1083 : decode cX12_init 1083 = .ok (.dup, 1) := by decide +kernel
theorem dX12_init_1084 : decode cX12_init 1084 = .ok (.bipush 21, 2) := by decide +kernel
theorem dX12_init_1086 : decode cX12_init 1086 = .ok (.bipush 99, 2) := by decide +kernel
theorem dX12_init_1088 : decode cX12_init 1088 = .ok (.iastore, 1) := by decide +kernel
theorem dX12_init_1089 : decode cX12_init 1089 = .ok (.dup, 1) := by decide +kernel
theorem dX12_init_1090 : decode cX12_init 1090 = .ok (.bipush 22, 2) := by decide +kernel
theorem dX12_init_1092 : decode cX12_init 1092 = .ok (.bipush 101, 2) := by decide +kernel
theorem dX12_init_1094 : decode cX12_init 1094 = .ok (.iastore, 1) := by decide +kernel
theorem dX12_init_1095 : decode cX12_init 1095 = .ok (.dup, 1) := by decide +kernel
theorem dX12_init_1096 : decode cX12_init 1096 = .ok (.bipush 23, 2) := by decide +kernel
theorem dX12_init_1098 : decode cX12_init 1098 = .ok (.bipush 32, 2) := by decide +kernel
theorem dX12_init_1100 : decode cX12_init 1100 = .ok (.iastore, 1) := by decide +kernel
theorem dX12_init_1101 : decode cX12_init 1101 = .ok (.dup, 1) := by decide +kernel
theorem dX12_init_1102 : decode cX12_init 1102 = .ok (.bipush 24, 2) := by decide +kernel
theorem dX12_init_1104 : decode cX12_init 1104 = .ok (.bipush 102, 2) := by decide +kernel
theorem dX12_init_1106 : decode cX12_init 1106 = .ok (.iastore, 1) := by decide +kernel
theorem dX12_init_1107 : decode cX12_init 1107 = .ok (.dup, 1) := by decide +kernel
theorem dX12_init_1108 : decode cX12_init 1108 = .ok (.bipush 25, 2) := by decide +kernel
theorem dX12_init_1110 : decode cX12_init 1110 = .ok (.bipush 111, 2) := by decide +kernel
theorem dX12_init_1112 : decode cX12_init 1112 = .ok (.iastore, 1) := by decide +kernel
theorem dX12_init_1113 : decode cX12_init 1113 = .ok (.dup, 1) := by decide +kernel
theorem dX12_init_1114 : decode cX12_init 1114 = .ok (.bipush 26, 2) := by decide +kernel
theorem dX12_init_1116 : decode cX12_init 1116 = .ok (.bipush 117, 2) := by decide +kernel
theorem dX12_init_1118 : decode cX12_init 1118 = .ok (.iastore, 1) := by decide +kernel
theorem dX12_init_1119 : decode cX12_init 1119 = .ok (.dup, 1) := by decide +kernel
theorem dX12_init_1120 : decode cX12_init 1120 = .ok (.bipush 27, 2) := by decide +kernel
theorem dX12_init_1122 : decode cX12_init 1122 = .ok (.bipush 114, 2) := by decide +kernel
theorem dX12_init_1124 : decode cX12_init 1124 = .ok (.iastore, 1) := by decide +kernel
theorem dX12_init_1125 : decode cX12_init 1125 = .ok (.dup, 1) := by decide +kernel
theorem dX12_init_1126 : decode cX12_init 1126 = .ok (.bipush 28, 2) := by decide +kernel
theorem dX12_init_1128 : decode cX12_init 1128 = .ok (.bipush 32, 2) := by decide +kernel
theorem dX12_init_1130 : decode cX12_init 1130 = .ok (.iastore, 1) := by decide +kernel
theorem dX12_init_1131 : decode cX12_init 1131 = .ok (.dup, 1) := by decide +kernel
theorem dX12_init_1132 : decode cX12_init 1132 = .ok (.bipush 29, 2) := by decide +kernel
theorem dX12_init_1134 : decode cX12_init 1134 = .ok (.bipush 116, 2) := by decide +kernel
theorem dX12_init_1136 : decode cX12_init 1136 = .ok (.iastore, 1) := by decide +kernel
theorem dX12_init_1137 : decode cX12_init 1137 = .ok (.dup, 1) := by decide +kernel
theorem dX12_init_1138 : decode cX12_init 1138 = .ok (.bipush 30, 2) := by decide +kernel
theorem dX12_init_1140 : decode cX12_init 1140 = .ok (.bipush 117, 2) := by decide +kernel
theorem dX12_init_1142 : decode cX12_init 1142 = .ok (.iastore, 1) := by decide +kernel
theorem dX12_init_1143 : decode cX12_init 1143 = .ok (.dup, 1) := by decide +kernel
theorem dX12_init_1144 : decode cX12_init 1144 = .ok (.bipush 31, 2) := by decide +kernel
theorem dX12_init_1146 : decode cX12_init 1146 = .ok (.bipush 114, 2) := by decide +kernel
theorem dX12_init_1148 : decode cX12_init 1148 = .ok (.iastore, 1) := by decide +kernel
theorem dX12_init_1149 : decode cX12_init 1149 = .ok (.dup, 1) := by decide +kernel
theorem dX12_init_1150 : decode cX12_init 1150 = .ok (.bipush 32, 2) := by decide +kernel
theorem dX12_init_1152 : decode cX12_init 1152 = .ok (.bipush 110, 2) := by decide +kernel
theorem dX12_init_1154 : decode cX12_init 1154 = .ok (.iastore, 1) := by decide +kernel
theorem dX12_init_1155 : decode cX12_init 1155 = .ok (.dup, 1) := by decide +kernel
theorem dX12_init_1156 : decode cX12_init 1156 = .ok (.bipush 33, 2) := by decide +kernel
theorem dX12_init_1158 : decode cX12_init 1158 = .ok (.bipush 32, 2) := by decide +kernel
theorem dX12_init_1160 : decode cX12_init 1160 = .ok (.iastore, 1) := by decide +kernel
theorem dX12_init_1161 : decode cX12_init 1161 = .ok (.dup, 1) := by decide +kernel
theorem dX12_init_1162 : decode cX12_init 1162 = .ok (.bipush 34, 2) := by decide +kernel
theorem dX12_init_1164 : decode cX12_init 1164 = .ok (.bipush 115, 2) := by decide +kernel
theorem dX12_init_1166 : decode cX12_init 1166 = .ok (.iastore, 1) := by decide +kernel
theorem dX12_init_1167 : decode cX12_init 1167 = .ok (.dup, 1) := by decide +kernel
theorem dX12_init_1168 : decode cX12_init 1168 = .ok (.bipush 35, 2) := by decide +kernel
theorem dX12_init_1170 : decode cX12_init 1170 = .ok (.bipush 108, 2) := by decide +kernel
theorem dX12_init_1172 : decode cX12_init 1172 = .ok (.iastore, 1) := by decide +kernel
theorem dX12_init_1173 : decode cX12_init 1173 = .ok (.dup, 1) := by decide +kernel
theorem dX12_init_1174 : decode cX12_init 1174 = .ok (.bipush 36, 2) := by decide +kernel
theorem dX12_init_1176 : decode cX12_init 1176 = .ok (.bipush 97, 2) := by decide +kernel
theorem dX12_init_1178 : decode cX12_init 1178 = .ok (.iastore, 1) := by decide +kernel
theorem dX12_init_1179 : decode cX12_init 1179 = .ok (.dup, 1) := by decide +kernel
theorem dX12_init_1180 : decode cX12_init 1180 = .ok (.bipush 37, 2) := by decide +kernel
theorem dX12_init_1182 : decode cX12_init 1182 = .ok (.bipush 99, 2) := by decide +kernel
theorem dX12_init_1184 : decode cX12_init 1184 = .ok (.iastore, 1) := by decide +kernel
theorem dX12_init_1185 : decode cX12_init 1185 = .ok (.dup, 1) := by decide +kernel
theorem dX12_init_1186 : decode cX12_init 1186 = .ok (.bipush 38, 2) := by decide +kernel
theorem dX12_init_1188 : decode cX12_init 1188 = .ok (.bipush 107, 2) := by decide +kernel
theorem dX12_init_1190 : decode cX12_init 1190 = .ok (.iastore, 1) := by decide +kernel
theorem dX12_init_1191 : decode cX12_init 1191 = .ok (.dup, 1) := by decide +kernel
theorem dX12_init_1192 : decode cX12_init 1192 = .ok (.bipush 39, 2) := by decide +kernel
theorem dX12_init_1194 : decode cX12_init 1194 = .ok (.bipush 32, 2) := by decide +kernel
theorem dX12_init_1196 : decode cX12_init 1196 = .ok (.iastore, 1) := by decide +kernel
theorem dX12_init_1197 : decode cX12_init 1197 = .ok (.dup, 1) := by decide +kernel
theorem dX12_init_1198 : decode cX12_init 1198 = .ok (.bipush 40, 2) := by decide +kernel
theorem dX12_init_1200 : decode cX12_init 1200 = .ok (.bipush 104, 2) := by decide +kernel
theorem dX12_init_1202 : decode cX12_init 1202 = .ok (.iastore, 1) := by decide +kernel
theorem dX12_init_1203 : decode cX12_init 1203 = .ok (.dup, 1) := by decide +kernel
theorem dX12_init_1204 : decode cX12_init 1204 = .ok (.bipush 41, 2) := by decide +kernel
theorem dX12_init_1206 : decode cX12_init 1206 = .ok (.bipush 111, 2) := by decide +kernel
theorem dX12_init_1208 : decode cX12_init 1208 = .ok (.iastore, 1) := by decide +kernel
theorem dX12_init_1209 : decode cX12_init 1209 = .ok (.dup, 1) := by decide +kernel
theorem dX12_init_1210 : decode cX12_init 1210 = .ok (.bipush 42, 2) := by decide +kernel
theorem dX12_init_1212 : decode cX12_init 1212 = .ok (.bipush 108, 2) := by decide +kernel
theorem dX12_init_1214 : decode cX12_init 1214 = .ok (.iastore, 1) := by decide +kernel
theorem dX12_init_1215 : decode cX12_init 1215 = .ok (.dup, 1) := by decide +kernel
theorem dX12_init_1216 : decode cX12_init 1216 = .ok (.bipush 43, 2) := by decide +kernel
theorem dX12_init_1218 : decode cX12_init 1218 = .ok (.bipush 100, 2) := by decide +kernel
theorem dX12_init_1220 : decode cX12_init 1220 = .ok (.iastore, 1) := by decide +kernel
theorem dX12_init_1221 : decode cX12_init 1221 = .ok (.dup, 1) := by decide +kernel
theorem dX12_init_1222 : decode cX12_init 1222 = .ok (.bipush 44, 2) := by decide +kernel
theorem dX12_init_1224 : decode cX12_init 1224 = .ok (.bipush 32, 2) := by decide +kernel
theorem dX12_init_1226 : decode cX12_init 1226 = .ok (.iastore, 1) := by decide +kernel
theorem dX12_init_1227 : decode cX12_init 1227 = .ok (.dup, 1) := by decide +kernel
theorem dX12_init_1228 : decode cX12_init 1228 = .ok (.bipush 45, 2) := by decide +kernel
theorem dX12_init_1230 : decode cX12_init 1230 = .ok (.bipush 108, 2) := by decide +kernel
theorem dX12_init_1232 : decode cX12_init 1232 = .ok (.iastore, 1) := by decide +kernel
theorem dX12_init_1233 : decode cX12_init 1233 = .ok (.dup, 1) := by decide +kernel
theorem dX12_init_1234 : decode cX12_init 1234 = .ok (.bipush 46, 2) := by decide +kernel
theorem dX12_init_1236 : decode cX12_init 1236 = .ok (.bipush 101, 2) := by decide +kernel
theorem dX12_init_1238 : decode cX12_init 1238 = .ok (.iastore, 1) := by decide +kernel
theorem dX12_init_1239 : decode cX12_init 1239 = .ok (.dup, 1) := by decide +kernel
theorem dX12_init_1240 : decode cX12_init 1240 = .ok (.bipush 47, 2) := by decide +kernel
theorem dX12_init_1242 : decode cX12_init 1242 = .ok (.bipush 118, 2) := by decide +kernel
theorem dX12_init_1244 : decode cX12_init 1244 = .ok (.iastore, 1) := by decide +kernel
theorem dX12_init_1245 : decode cX12_init 1245 = .ok (.dup, 1) := by decide +kernel
theorem dX12_init_1246 : decode cX12_init 1246 = .ok (.bipush 48, 2) := by decide +kernel
theorem dX12_init_1248 : decode cX12_init 1248 = .ok (.bipush 101, 2) := by decide +kernel
theorem dX12_init_1250 : decode cX12_init 1250 = .ok (.iastore, 1) := by decide +kernel
theorem dX12_init_1251 : decode cX12_init 1251 = .ok (.dup, 1) := by decide +kernel
theorem dX12_init_1252 : decode cX12_init 1252 = .ok (.bipush 49, 2) := by decide +kernel
theorem dX12_init_1254 : decode cX12_init 1254 = .ok (.bipush 108, 2) := by decide +kernel
theorem dX12_init_1256 : decode cX12_init 1256 = .ok (.iastore, 1) := by decide +kernel
theorem dX12_init_1257 : decode cX12_init 1257 = .ok (.dup, 1) := by decide +kernel
theorem dX12_init_1258 : decode cX12_init 1258 = .ok (.bipush 50, 2) := by decide +kernel
theorem dX12_init_1260 : decode cX12_init 1260 = .ok (.bipush 32, 2) := by decide +kernel
theorem dX12_init_1262 : decode cX12_init 1262 = .ok (.iastore, 1) := by decide +kernel
theorem dX12_init_1263 : decode cX12_init 1263 = .ok (.dup, 1) := by decide +kernel
theorem dX12_init_1264 : decode cX12_init 1264 = .ok (.bipush 51, 2) := by decide +kernel
theorem dX12_init_1266 : decode cX12_init 1266 = .ok (.bipush 109, 2) := by decide +kernel
theorem dX12_init_1268 : decode cX12_init 1268 = .ok (.iastore, 1) := by decide +kernel
theorem dX12_init_1269 : decode cX12_init 1269 = .ok (.dup, 1) := by decide +kernel
theorem dX12_init_1270 : decode cX12_init 1270 = .ok (.bipush 52, 2) := by decide +kernel
theorem dX12_init_1272 : decode cX12_init 1272 = .ok (.bipush 97, 2) := by decide +kernel
theorem dX12_init_1274 : decode cX12_init 1274 = .ok (.iastore, 1) := by decide +kernel
theorem dX12_init_1275 : decode cX12_init 1275 = .ok (.dup, 1) := by decide +kernel
theorem dX12_init_1276 : decode cX12_init 1276 = .ok (.bipush 53, 2) := by decide +kernel
theorem dX12_init_1278 : decode cX12_init 1278 = .ok (.bipush 114, 2) := by decide +kernel
theorem dX12_init_1280 : decode cX12_init 1280 = .ok (.iastore, 1) := by decide +kernel
theorem dX12_init_1281 : decode cX12_init 1281 = .ok (.dup, 1) := by decide +kernel
theorem dX12_init_1282 : decode cX12_init 1282 = .ok (.bipush 54, 2) := by decide +kernel
theorem dX12_init_1284 : decode cX12_init 1284 = .ok (.bipush 103, 2) := by decide +kernel
theorem dX12_init_1286 : decode cX12_init 1286 = .ok (.iastore, 1) := by decide +kernel
theorem dX12_init_1287 : decode cX12_init 1287 = .ok (.dup, 1) := by decide +kernel
theorem dX12_init_1288 : decode cX12_init 1288 = .ok (.bipush 55, 2) := by decide +kernel
theorem dX12_init_1290 : decode cX12_init 1290 = .ok (.bipush 105, 2) := by decide +kernel
theorem dX12_init_1292 : decode cX12_init 1292 = .ok (.iastore, 1) := by decide +kernel
theorem dX12_init_1293 : decode cX12_init 1293 = .ok (.dup, 1) := by decide +kernel
theorem dX12_init_1294 : decode cX12_init 1294 = .ok (.bipush 56, 2) := by decide +kernel
theorem dX12_init_1296 : decode cX12_init 1296 = .ok (.bipush 110, 2) := by decide +kernel
theorem dX12_init_1298 : decode cX12_init 1298 = .ok (.iastore, 1) := by decide +kernel
theorem dX12_init_1299 : decode cX12_init 1299 = .ok (.dup, 1) := by decide +kernel
theorem dX12_init_1300 : decode cX12_init 1300 = .ok (.bipush 57, 2) := by decide +kernel
theorem dX12_init_1302 : decode cX12_init 1302 = .ok (.bipush 32, 2) := by decide +kernel
theorem dX12_init_1304 : decode cX12_init 1304 = .ok (.iastore, 1) := by decide +kernel
theorem dX12_init_1305 : decode cX12_init 1305 = .ok (.dup, 1) := by decide +kernel
theorem dX12_init_1306 : decode cX12_init 1306 = .ok (.bipush 58, 2) := by decide +kernel
theorem dX12_init_1308 : decode cX12_init 1308 = .ok (.bipush 115, 2) := by decide +kernel
theorem dX12_init_1310 : decode cX12_init 1310 = .ok (.iastore, 1) := by decide +kernel
theorem dX12_init_1311 : decode cX12_init 1311 = .ok (.dup, 1) := by decide +kernel
theorem dX12_init_1312 : decode cX12_init 1312 = .ok (.bipush 59, 2) := by decide +kernel
theorem dX12_init_1314 : decode cX12_init 1314 = .ok (.bipush 97, 2) := by decide +kernel
theorem dX12_init_1316 : decode cX12_init 1316 = .ok (.iastore, 1) := by decide +kernel
theorem dX12_init_1317 : decode cX12_init 1317 = .ok (.dup, 1) := by decide +kernel
theorem dX12_init_1318 : decode cX12_init 1318 = .ok (.bipush 60, 2) := by decide +kernel
theorem dX12_init_1320 : decode cX12_init 1320 = .ok (.bipush 112, 2) := by decide +kernel
theorem dX12_init_1322 : decode cX12_init 1322 = .ok (.iastore, 1) := by decide +kernel
theorem dX12_init_1323 : decode cX12_init 1323 = .ok (.dup, 1) := by decide +kernel
theorem dX12_init_1324 : decode cX12_init 1324 = .ok (.bipush 61, 2) := by decide +kernel
theorem dX12_init_1326 : decode cX12_init 1326 = .ok (.bipush 32, 2) := by decide +kernel
theorem dX12_init_1328 : decode cX12_init 1328 = .ok (.iastore, 1) := by decide +kernel
theorem dX12_init_1329 : decode cX12_init 1329 = .ok (.dup, 1) := by decide +kernel
theorem dX12_init_1330 : decode cX12_init 1330 = .ok (.bipush 62, 2) := by decide +kernel
theorem dX12_init_1332 : decode cX12_init 1332 = .ok (.bipush 115, 2) := by decide +kernel
theorem dX12_init_1334 : decode cX12_init 1334 = .ok (.iastore, 1) := by decide +kernel
theorem dX12_init_1335 : decode cX12_init 1335 = .ok (.dup, 1) := by decide +kernel
theorem dX12_init_1336 : decode cX12_init 1336 = .ok (.bipush 63, 2) := by decide +kernel
theorem dX12_init_1338 : decode cX12_init 1338 = .ok (.bipush 116, 2) := by decide +kernel
theorem dX12_init_1340 : decode cX12_init 1340 = .ok (.iastore, 1) := by decide +kernel
theorem dX12_init_1341 : decode cX12_init 1341 = .ok (.dup, 1) := by decide +kernel
theorem dX12_init_1342 : decode cX12_init 1342 = .ok (.bipush 64, 2) := by decide +kernel
theorem dX12_init_1344 : decode cX12_init 1344 = .ok (.bipush 111, 2) := by decide +kernel
theorem dX12_init_1346 : decode cX12_init 1346 = .ok (.iastore, 1) := by decide +kernel
theorem dX12_init_1347 : decode cX12_init 1347 = .ok (.dup, 1) := by decide +kernel
theorem dX12_init_1348 : decode cX12_init 1348 = .ok (.bipush 65, 2) := by decide +kernel
theorem dX12_init_1350 : decode cX12_init 1350 = .ok (.bipush 99, 2) := by decide +kernel
theorem dX12_init_1352 : decode cX12_init 1352 = .ok (.iastore, 1) := by decide +kernel
theorem dX12_init_1353 : decode cX12_init 1353 = .ok (.dup, 1) := by decide +kernel
theorem dX12_init_1354 : decode cX12_init 1354 = .ok (.bipush 66, 2) := by decide +kernel
theorem dX12_init_1356 : decode cX12_init 1356 = .ok (.bipush 107, 2) := by decide +kernel
theorem dX12_init_1358 : decode cX12_init 1358 = .ok (.iastore, 1) := by decide +kernel
theorem dX12_init_1359 : decode cX12_init 1359 = .ok (.dup, 1) := by decide +kernel
theorem dX12_init_1360 : decode cX12_init 1360 = .ok (.bipush 67, 2) := by decide +kernel
theorem dX12_init_1362 : decode cX12_init 1362 = .ok (.bipush 32, 2) := by decide +kernel
theorem dX12_init_1364 : decode cX12_init 1364 = .ok (.iastore, 1) := by decide +kernel
theorem dX12_init_1365 : decode cX12_init 1365 = .ok (.dup, 1) := by decide +kernel
theorem dX12_init_1366 : decode cX12_init 1366 = .ok (.bipush 68, 2) := by decide +kernel
theorem dX12_init_1368 : decode cX12_init 1368 = .ok (.bipush 97, 2) := by decide +kernel
theorem dX12_init_1370 : decode cX12_init 1370 = .ok (.iastore, 1) := by decide +kernel
theorem dX12_init_1371 : decode cX12_init 1371 = .ok (.dup, 1) := by decide +kernel
theorem dX12_init_1372 : decode cX12_init 1372 = .ok (.bipush 69, 2) := by decide +kernel
theorem dX12_init_1374 : decode cX12_init 1374 = .ok (.bipush 100, 2) := by decide +kernel
theorem dX12_init_1376 : decode cX12_init 1376 = .ok (.iastore, 1) := by decide +kernel
theorem dX12_init_1377 : decode cX12_init 1377 = .ok (.dup, 1) := by decide +kernel
theorem dX12_init_1378 : decode cX12_init 1378 = .ok (.bipush 70, 2) := by decide +kernel
theorem dX12_init_1380 : decode cX12_init 1380 = .ok (.bipush 100, 2) := by decide +kernel
theorem dX12_init_1382 : decode cX12_init 1382 = .ok (.iastore, 1) := by decide +kernel
theorem dX12_init_1383 : decode cX12_init 1383 = .ok (.dup, 1) := by decide +kernel
theorem dX12_init_1384 : decode cX12_init 1384 = .ok (.bipush 71, 2) := by decide +kernel
theorem dX12_init_1386 : decode cX12_init 1386 = .ok (.bipush 32, 2) := by decide +kernel
theorem dX12_init_1388 : decode cX12_init 1388 = .ok (.iastore, 1) := by decide +kernel
theorem dX12_init_1389 : decode cX12_init 1389 = .ok (.dup, 1) := by decide +kernel
theorem dX12_init_1390 : decode cX12_init 1390 = .ok (.bipush 72, 2) := by decide +kernel
theorem dX12_init_1392 : decode cX12_init 1392 = .ok (.bipush 108, 2) := by decide +kernel
theorem dX12_init_1394 : decode cX12_init 1394 = .ok (.iastore, 1) := by decide +kernel
theorem dX12_init_1395 : decode cX12_init 1395 = .ok (.dup, 1) := by decide +kernel
theorem dX12_init_1396 : decode cX12_init 1396 = .ok (.bipush 73, 2) := by decide +kernel
theorem dX12_init_1398 : decode cX12_init 1398 = .ok (.bipush 101, 2) := by decide +kernel
theorem dX12_init_1400 : decode cX12_init 1400 = .ok (.iastore, 1) := by decide +kernel
theorem dX12_init_1401 : decode cX12_init 1401 = .ok (.dup, 1) := by decide +kernel
theorem dX12_init_1402 : decode cX12_init 1402 = .ok (.bipush 74, 2) := by decide +kernel
theorem dX12_init_1404 : decode cX12_init 1404 = .ok (.bipush 115, 2) := by decide +kernel
theorem dX12_init_1406 : decode cX12_init 1406 = .ok (.iastore, 1) := by decide +kernel
theorem dX12_init_1407 : decode cX12_init 1407 = .ok (.dup, 1) := by decide +kernel
theorem dX12_init_1408 : decode cX12_init 1408 = .ok (.bipush 75, 2) := by decide +kernel
theorem dX12_init_1410 : decode cX12_init 1410 = .ok (.bipush 115, 2) := by decide +kernel
theorem dX12_init_1412 : decode cX12_init 1412 = .ok (.iastore, 1) := by decide +kernel
theorem dX12_init_1413 : decode cX12_init 1413 = .ok (.dup, 1) := by decide +kernel
theorem dX12_init_1414 : decode cX12_init 1414 = .ok (.bipush 76, 2) := by decide +kernel
theorem dX12_init_1416 : decode cX12_init 1416 = .ok (.bipush 32, 2) := by decide +kernel
theorem dX12_init_1418 : decode cX12_init 1418 = .ok (.iastore, 1) := by decide +kernel
theorem dX12_init_1419 : decode cX12_init 1419 = .ok (.dup, 1) := by decide +kernel
theorem dX12_init_1420 : decode cX12_init 1420 = .ok (.bipush 77, 2) := by decide +kernel
theorem dX12_init_1422 : decode cX12_init 1422 = .ok (.bipush 98, 2) := by decide +kernel
theorem dX12_init_1424 : decode cX12_init 1424 = .ok (.iastore, 1) := by decide +kernel
theorem dX12_init_1425 : decode cX12_init 1425 = .ok (.dup, 1) := by decide +kernel
theorem dX12_init_1426 : decode cX12_init 1426 = .ok (.bipush 78, 2) := by decide +kernel
theorem dX12_init_1428 : decode cX12_init 1428 = .ok (.bipush 111, 2) := by decide +kernel
theorem dX12_init_1430 : decode cX12_init 1430 = .ok (.iastore, 1) := by decide +kernel
theorem dX12_init_1431 : decode cX12_init 1431 = .ok (.dup, 1) := by decide +kernel
theorem dX12_init_1432 : decode cX12_init 1432 = .ok (.bipush 79, 2) := by decide +kernel
theorem dX12_init_1434 : decode cX12_init 1434 = .ok (.bipush 116, 2) := by decide +kernel
theorem dX12_init_1436 : decode cX12_init 1436 = .ok (.iastore, 1) := by decide +kernel
theorem dX12_init_1437 : decode cX12_init 1437 = .ok (.dup, 1) := by decide +kernel
theorem dX12_init_1438 : decode cX12_init 1438 = .ok (.bipush 80, 2) := by decide +kernel
theorem dX12_init_1440 : decode cX12_init 1440 = .ok (.bipush 104, 2) := by decide +kernel
theorem dX12_init_1442 : decode cX12_init 1442 = .ok (.iastore, 1) := by decide +kernel
theorem dX12_init_1443 : decode cX12_init 1443 = .ok (.dup, 1) := by decide +kernel
theorem dX12_init_1444 : decode cX12_init 1444 = .ok (.bipush 81, 2) := by decide +kernel
theorem dX12_init_1446 : decode cX12_init 1446 = .ok (.bipush 32, 2) := by decide +kernel
theorem dX12_init_1448 : decode cX12_init 1448 = .ok (.iastore, 1) := by decide +kernel
theorem dX12_init_1449 : decode cX12_init 1449 = .ok (.dup, 1) := by decide +kernel
theorem dX12_init_1450 : decode cX12_init 1450 = .ok (.bipush 82, 2) := by decide +kernel
theorem dX12_init_1452 : decode cX12_init 1452 = .ok (.bipush 105, 2) := by decide +kernel
theorem dX12_init_1454 : decode cX12_init 1454 = .ok (.iastore, 1) := by decide +kernel
theorem dX12_init_1455 : decode cX12_init 1455 = .ok (.dup, 1) := by decide +kernel
theorem dX12_init_1456 : decode cX12_init 1456 = .ok (.bipush 83, 2) := by decide +kernel
theorem dX12_init_1458 : decode cX12_init 1458 = .ok (.bipush 110, 2) := by decide +kernel
theorem dX12_init_1460 : decode cX12_init 1460 = .ok (.iastore, 1) := by decide +kernel
theorem dX12_init_1461 : decode cX12_init 1461 = .ok (.dup, 1) := by decide +kernel
theorem dX12_init_1462 : decode cX12_init 1462 = .ok (.bipush 84, 2) := by decide +kernel
theorem dX12_init_1464 : decode cX12_init 1464 = .ok (.bipush 116, 2) := by decide +kernel
theorem dX12_init_1466 : decode cX12_init 1466 = .ok (.iastore, 1) := by decide +kernel
theorem dX12_init_1467 : decode cX12_init 1467 = .ok (.dup, 1) := by decide +kernel
theorem dX12_init_1468 : decode cX12_init 1468 = .ok (.bipush 85, 2) := by decide +kernel
theorem dX12_init_1470 : decode cX12_init 1470 = .ok (.bipush 111, 2) := by decide +kernel
theorem dX12_init_1472 : decode cX12_init 1472 = .ok (.iastore, 1) := by decide +kernel
theorem dX12_init_1473 : decode cX12_init 1473 = .ok (.dup, 1) := by decide +kernel
theorem dX12_init_1474 : decode cX12_init 1474 = .ok (.bipush 86, 2) := by decide +kernel
theorem dX12_init_1476 : decode cX12_init 1476 = .ok (.bipush 32, 2) := by decide +kernel
theorem dX12_init_1478 : decode cX12_init 1478 = .ok (.iastore, 1) := by decide +kernel
theorem dX12_init_1479 : decode cX12_init 1479 = .ok (.dup, 1) := by decide +kernel
theorem dX12_init_1480 : decode cX12_init 1480 = .ok (.bipush 87, 2) := by decide +kernel
theorem dX12_init_1482 : decode cX12_init 1482 = .ok (.bipush 97, 2) := by decide +kernel
theorem dX12_init_1484 : decode cX12_init 1484 = .ok (.iastore, 1) := by decide +kernel
theorem dX12_init_1485 : decode cX12_init 1485 = .ok (.dup, 1) := by decide +kernel
theorem dX12_init_1486 : decode cX12_init 1486 = .ok (.bipush 88, 2) := by decide +kernel
theorem dX12_init_1488 : decode cX12_init 1488 = .ok (.bipush 104, 2) := by decide +kernel
theorem dX12_init_1490 : decode cX12_init 1490 = .ok (.iastore, 1) := by decide +kernel
theorem dX12_init_1491 : decode cX12_init 1491 = .ok (.dup, 1) := by decide +kernel
theorem dX12_init_1492 : decode cX12_init 1492 = .ok (.bipush 89, 2) := by decide +kernel
theorem dX12_init_1494 : decode cX12_init 1494 = .ok (.bipush 101, 2) := by decide +kernel
theorem dX12_init_1496 : decode cX12_init 1496 = .ok (.iastore, 1) := by decide +kernel
theorem dX12_init_1497 : decode cX12_init 1497 = .ok (.dup, 1) := by decide +kernel
theorem dX12_init_1498 : decode cX12_init 1498 = .ok (.bipush 90, 2) := by decide +kernel
theorem dX12_init_1500 : decode cX12_init 1500 = .ok (.bipush 97, 2) := by decide +kernel
theorem dX12_init_1502 : decode cX12_init 1502 = .ok (.iastore, 1) := by decide +kernel
theorem dX12_init_1503 : decode cX12_init 1503 = .ok (.dup, 1) := by decide +kernel
theorem dX12_init_1504 : decode cX12_init 1504 = .ok (.bipush 91, 2) := by decide +kernel
theorem dX12_init_1506 : decode cX12_init 1506 = .ok (.bipush 100, 2) := by decide +kernel
theorem dX12_init_1508 : decode cX12_init 1508 = .ok (.iastore, 1) := by decide +kernel
theorem dX12_init_1509 : decode cX12_init 1509 = .ok (.dup, 1) := by decide +kernel
theorem dX12_init_1510 : decode cX12_init 1510 = .ok (.bipush 92, 2) := by decide +kernel
theorem dX12_init_1512 : decode cX12_init 1512 = .ok (.bipush 32, 2) := by decide +kernel
theorem dX12_init_1514 : decode cX12_init 1514 = .ok (.iastore, 1) := by decide +kernel
theorem dX12_init_1515 : decode cX12_init 1515 = .ok (.dup, 1) := by decide +kernel
theorem dX12_init_1516 : decode cX12_init 1516 = .ok (.bipush 93, 2) := by decide +kernel
theorem dX12_init_1518 : decode cX12_init 1518 = .ok (.bipush 116, 2) := by decide +kernel
theorem dX12_init_1520 : decode cX12_init 1520 = .ok (.iastore, 1) := by decide +kernel
theorem dX12_init_1521 : decode cX12_init 1521 = .ok (.dup, 1) := by decide +kernel
theorem dX12_init_1522 : decode cX12_init 1522 = .ok (.bipush 94, 2) := by decide +kernel
theorem dX12_init_1524 : decode cX12_init 1524 = .ok (.bipush 111, 2) := by decide +kernel
theorem dX12_init_1526 : decode cX12_init 1526 = .ok (.iastore, 1) := by decide +kernel
theorem dX12_init_1527 : decode cX12_init 1527 = .ok (.dup, 1) := by decide +kernel
theorem dX12_init_1528 : decode cX12_init 1528 = .ok (.bipush 95, 2) := by decide +kernel
theorem dX12_init_1530 : decode cX12_init 1530 = .ok (.bipush 32, 2) := by decide +kernel
theorem dX12_init_1532 : decode cX12_init 1532 = .ok (.iastore, 1) := by decide +kernel
theorem dX12_init_1533 : decode cX12_init 1533 = .ok (.putfield 78, 3) := by decide +kernel
theorem dX12_init_1536 : decode cX12_init 1536 = .ok (.aload_n 0, 1) := by decide +kernel
theorem dX12_init_1537 : decode cX12_init 1537 = .ok (.iconst (-1), 1) := by decide +kernel
theorem dX12_init_1538 : decode cX12_init 1538 = .ok (.putfield 81, 3) := by decide +kernel
theorem dX12_init_1541 : decode cX12_init 1541 = .ok (.aload_n 0, 1) := by decide +kernel
theorem dX12_init_1542 : decode cX12_init 1542 = .ok (.bipush 12, 2) := by decide +kernel
theorem dX12_init_1544 : decode cX12_init 1544 = .ok (.newarray .int, 2) := by decide +kernel
theorem dX12_init_1546 : decode cX12_init 1546 = .ok (.putfield 84, 3) := by decide +kernel
theorem dX12_init_1549 : decode cX12_init 1549 = .ok (.aload_n 0, 1) := by decide +kernel
theorem dX12_init_1550 : decode cX12_init 1550 = .ok (.bipush 48, 2) := by decide +kernel
theorem dX12_init_1552 : decode cX12_init 1552 = .ok (.newarray .int, 2) := by decide +kernel
theorem dX12_init_1554 : decode cX12_init 1554 = .ok (.putfield 87, 3) := by decide +kernel
theorem dX12_init_1557 : decode cX12_init 1557 = .ok (.aload_n 0, 1) := by decide +kernel
theorem dX12_init_1558 : decode cX12_init 1558 = .ok (.bipush 48, 2) := by decide +kernel
theorem dX12_init_1560 : decode cX12_init 1560 = .ok (.newarray .int, 2) := by decide +kernel
theorem dX12_init_1562 : decode cX12_init 1562 = .ok (.putfield 90, 3) := by decide +kernel
theorem dX12_init_1565 : decode cX12_init 1565 = .ok (.aload_n 0, 1) := by decide +kernel
theorem dX12_init_1566 : decode cX12_init 1566 = .ok (.sipush 2304, 3) := by decide +kernel
theorem dX12_init_1569 : decode cX12_init 1569 = .ok (.newarray .int, 2) := by decide +kernel
theorem dX12_init_1571 : decode cX12_init 1571 = .ok (.putfield 93, 3) := by decide +kernel
theorem dX12_init_1574 : decode cX12_init 1574 = .ok (.aload_n 0, 1) := by decide +kernel
theorem dX12_init_1575 : decode cX12_init 1575 = .ok (.bipush 48, 2) := by decide +kernel
theorem dX12_init_1577 : decode cX12_init 1577 = .ok (.newarray .int, 2) := by decide +kernel
theorem dX12_init_1579 : decode cX12_init 1579 = .ok (.putfield 96, 3) := by decide +kernel
theorem dX12_init_1582 : decode cX12_init 1582 = .ok (.aload_n 0, 1) := by decide +kernel
theorem dX12_init_1583 : decode cX12_init 1583 = .ok (.bipush 48, 2) := by decide +kernel
theorem dX12_init_1585 : decode cX12_init 1585 = .ok (.newarray .int, 2) := by decide +kernel
theorem dX12_init_1587 : decode cX12_init 1587 = .ok (.putfield 99, 3) := by decide +kernel
theorem dX12_init_1590 : decode cX12_init 1590 = .ok (.aload_n 0, 1) := by decide +kernel
theorem dX12_init_1591 : decode cX12_init 1591 = .ok (.bipush 48, 2) := by decide +kernel
theorem dX12_init_1593 : decode cX12_init 1593 = .ok (.newarray .int, 2) := by decide +kernel
theorem dX12_init_1595 : decode cX12_init 1595 = .ok (.putfield 102, 3) := by decide +kernel
theorem dX12_init_1598 : decode cX12_init 1598 = .ok (.aload_n 0, 1) := by decide +kernel
theorem dX12_init_1599 : decode cX12_init 1599 = .ok (.bipush 48, 2) := by decide +kernel
theorem dX12_init_1601 : decode cX12_init 1601 = .ok (.newarray .boolean, 2) := by decide +kernel
theorem dX12_init_1603 : decode cX12_init 1603 = .ok (.putfield 105, 3) := by decide +kernel
theorem dX12_init_1606 : decode cX12_init 1606 = .ok (.aload_n 0, 1) := by decide +kernel
theorem dX12_init_1607 : decode cX12_init 1607 = .ok (.bipush 48, 2) := by decide +kernel
theorem dX12_init_1609 : decode cX12_init 1609 = .ok (.newarray .boolean, 2) := by decide +kernel
theorem dX12_init_1611 : decode cX12_init 1611 = .ok (.putfield 108, 3) := by decide +kernel
theorem dX12_init_1614 : decode cX12_init 1614 = .ok (.aload_n 0, 1) := by decide +kernel
theorem dX12_init_1615 : decode cX12_init 1615 = .ok (.iconst (-1), 1) := by decide +kernel
theorem dX12_init_1616 : decode cX12_init 1616 = .ok (.putfield 111, 3) := by decide +kernel
theorem dX12_init_1619 : decode cX12_init 1619 = .ok (.aload_n 0, 1) := by decide +kernel
theorem dX12_init_1620 : decode cX12_init 1620 = .ok (.iconst (-1), 1) := by decide +kernel
theorem dX12_init_1621 : decode cX12_init 1621 = .ok (.putfield 114, 3) := by decide +kernel
theorem dX12_init_1624 : decode cX12_init 1624 = .ok (.aload_n 0, 1) := by decide +kernel
theorem dX12_init_1625 : decode cX12_init 1625 = .ok (.bipush 48, 2) := by decide +kernel
theorem dX12_init_1627 : decode cX12_init 1627 = .ok (.newarray .int, 2) := by decide +kernel
theorem dX12_init_1629 : decode cX12_init 1629 = .ok (.putfield 117, 3) := by decide +kernel
theorem dX12_init_1632 : decode cX12_init 1632 = .ok (.aload_n 0, 1) := by decide +kernel
theorem dX12_init_1633 : decode cX12_init 1633 = .ok (.bipush 48, 2) := by decide +kernel
theorem dX12_init_1635 : decode cX12_init 1635 = .ok (.newarray .int, 2) := by decide +kernel
theorem dX12_init_1637 : decode cX12_init 1637 = .ok (.putfield 120, 3) := by decide +kernel
theorem dX12_init_1640 : decode cX12_init 1640 = .ok (.aload_n 0, 1) := by decide +kernel
theorem dX12_init_1641 : decode cX12_init 1641 = .ok (.bipush 48, 2) := by decide +kernel
theorem dX12_init_1643 : decode cX12_init 1643 = .ok (.newarray .int, 2) := by decide +kernel
theorem dX12_init_1645 : decode cX12_init 1645 = .ok (.putfield 123, 3) := by decide +kernel
theorem dX12_init_1648 : decode cX12_init 1648 = .ok (.aload_n 0, 1) := by decide +kernel
theorem dX12_init_1649 : decode cX12_init 1649 = .ok (.bipush 96, 2) := by decide +kernel
theorem dX12_init_1651 : decode cX12_init 1651 = .ok (.newarray .int, 2) := by decide +kernel
theorem dX12_init_1653 : decode cX12_init 1653 = .ok (.putfield 126, 3) := by decide +kernel
theorem dX12_init_1656 : decode cX12_init 1656 = .ok (.aload_n 0, 1) := by decide +kernel
theorem dX12_init_1657 : decode cX12_init 1657 = .ok (.bipush 96, 2) := by decide +kernel
theorem dX12_init_1659 : decode cX12_init 1659 = .ok (.newarray .boolean, 2) := by decide +kernel
theorem dX12_init_1661 : decode cX12_init 1661 = .ok (.putfield 129, 3) := by decide +kernel
theorem dX12_init_1664 : decode cX12_init 1664 = .ok (.aload_n 0, 1) := by decide +kernel
theorem dX12_init_1665 : decode cX12_init 1665 = .ok (.iconst 2, 1) := by decide +kernel
theorem dX12_init_1666 : decode cX12_init 1666 = .ok (.newarray .int, 2) := by decide +kernel
theorem dX12_init_1668 : decode cX12_init 1668 = .ok (.putfield 132, 3) := by decide +kernel
theorem dX12_init_1671 : decode cX12_init 1671 = .ok (.aload_n 0, 1) := by decide +kernel
theorem dX12_init_1672 : decode cX12_init 1672 = .ok (.iconst 2, 1) := by decide +kernel
theorem dX12_init_1673 : decode cX12_init 1673 = .ok (.newarray .int, 2) := by decide +kernel
theorem dX12_init_1675 : decode cX12_init 1675 = .ok (.putfield 135, 3) := by decide +kernel
theorem dX12_init_1678 : decode cX12_init 1678 = .ok (.aload_n 0, 1) := by decide +kernel
theorem dX12_init_1679 : decode cX12_init 1679 = .ok (.iconst 2, 1) := by decide +kernel
theorem dX12_init_1680 : decode cX12_init 1680 = .ok (.newarray .int, 2) := by decide +kernel
theorem dX12_init_1682 : decode cX12_init 1682 = .ok (.putfield 138, 3) := by decide +kernel
theorem dX12_init_1685 : decode cX12_init 1685 = .ok (.aload_n 0, 1) := by decide +kernel
theorem dX12_init_1686 : decode cX12_init 1686 = .ok (.bipush 16, 2) := by decide +kernel
theorem dX12_init_1688 : decode cX12_init 1688 = .ok (.newarray .int, 2) := by decide +kernel
theorem dX12_init_1690 : decode cX12_init 1690 = .ok (.putfield 141, 3) := by decide +kernel
theorem dX12_init_1693 : decode cX12_init 1693 = .ok (.aload_n 0, 1) := by decide +kernel
theorem dX12_init_1694 : decode cX12_init 1694 = .ok (.bipush 16, 2) := by decide +kernel
theorem dX12_init_1696 : decode cX12_init 1696 = .ok (.newarray .int, 2) := by decide +kernel
theorem dX12_init_1698 : decode cX12_init 1698 = .ok (.putfield 144, 3) := by decide +kernel
theorem dX12_init_1701 : decode cX12_init 1701 = .ok (.aload_n 0, 1) := by decide +kernel
theorem dX12_init_1702 : decode cX12_init 1702 = .ok (.bipush 16, 2) := by decide +kernel
theorem dX12_init_1704 : decode cX12_init 1704 = .ok (.newarray .int, 2) := by decide +kernel
theorem dX12_init_1706 : decode cX12_init 1706 = .ok (.putfield 147, 3) := by decide +kernel
theorem dX12_init_1709 : decode cX12_init 1709 = .ok (.aload_n 0, 1) := by decide +kernel
theorem dX12_init_1710 : decode cX12_init 1710 = .ok (.bipush 16, 2) := by decide +kernel
theorem dX12_init_1712 : decode cX12_init 1712 = .ok (.newarray .int, 2) := by decide +kernel
theorem dX12_init_1714 : decode cX12_init 1714 = .ok (.putfield 150, 3) := by decide +kernel
theorem dX12_init_1717 : decode cX12_init 1717 = .ok (.aload_n 0, 1) := by decide +kernel
theorem dX12_init_1718 : decode cX12_init 1718 = .ok (.bipush 16, 2) := by decide +kernel
theorem dX12_init_1720 : decode cX12_init 1720 = .ok (.newarray .int, 2) := by decide +kernel
theorem dX12_init_1722 : decode cX12_init 1722 = .ok (.putfield 153, 3) := by decide +kernel
theorem dX12_init_1725 : decode cX12_init 1725 = .ok (.aload_n 0, 1) := by decide +kernel
theorem dX12_init_1726 : decode cX12_init 1726 = .ok (.ldc 156, 2) := by decide +kernel
theorem dX12_init_1728 : decode cX12_init 1728 = .ok (.newarray .int, 2) := by decide +kernel
theorem dX12_init_1730 : decode cX12_init 1730 = .ok (.putfield 157, 3) := by decide +kernel
theorem dX12_init_1733 : decode cX12_init 1733 = .ok (.aload_n 0, 1) := by decide +kernel
theorem dX12_init_1734 : decode cX12_init 1734 = .ok (.ldc 156, 2) := by decide +kernel
theorem dX12_init_1736 : decode cX12_init 1736 = .ok (.newarray .long, 2) := by decide +kernel
theorem dX12_init_1738 : decode cX12_init 1738 = .ok (.putfield 160, 3) := by decide +kernel
theorem dX12_init_1741 : decode cX12_init 1741 = .ok (.aload_n 0, 1) := by decide +kernel
theorem dX12_init_1742 : decode cX12_init 1742 = .ok (.sipush 200, 3) := by decide +kernel
theorem dX12_init_1745 : decode cX12_init 1745 = .ok (.newarray .int, 2) := by decide +kernel
theorem dX12_init_1747 : decode cX12_init 1747 = .ok (.putfield 164, 3) := by decide +kernel
theorem dX12_init_1750 : decode cX12_init 1750 = .ok (.aload_n 0, 1) := by decide +kernel
theorem dX12_init_1751 : decode cX12_init 1751 = .ok (.sipush 200, 3) := by decide +kernel
theorem dX12_init_1754 : decode cX12_init 1754 = .ok (.newarray .boolean, 2) := by decide +kernel
theorem dX12_init_1756 : decode cX12_init 1756 = .ok (.putfield 167, 3) := by decide +kernel
theorem dX12_init_1759 : decode cX12_init 1759 = .ok (.aload_n 0, 1) := by decide +kernel
theorem dX12_init_1760 : decode cX12_init 1760 = .ok (.sipush 1000, 3) := by decide +kernel
theorem dX12_init_1763 : decode cX12_init 1763 = .ok (.newarray .int, 2) := by decide +kernel
theorem dX12_init_1765 : decode cX12_init 1765 = .ok (.putfield 170, 3) := by decide +kernel
theorem dX12_init_1768 : decode cX12_init 1768 = .ok (.aload_n 0, 1) := by decide +kernel
theorem dX12_init_1769 : decode cX12_init 1769 = .ok (.bipush 60, 2) := by decide +kernel
theorem dX12_init_1771 : decode cX12_init 1771 = .ok (.newarray .int, 2) := by decide +kernel
theorem dX12_init_1773 : decode cX12_init 1773 = .ok (.putfield 173, 3) := by decide +kernel
theorem dX12_init_1776 : decode cX12_init 1776 = .ok (.aload_n 0, 1) := by decide +kernel
theorem dX12_init_1777 : decode cX12_init 1777 = .ok (.bipush 60, 2) := by decide +kernel
theorem dX12_init_1779 : decode cX12_init 1779 = .ok (.newarray .int, 2) := by decide +kernel
theorem dX12_init_1781 : decode cX12_init 1781 = .ok (.putfield 176, 3) := by decide +kernel
theorem dX12_init_1784 : decode cX12_init 1784 = .ok (.aload_n 0, 1) := by decide +kernel
theorem dX12_init_1785 : decode cX12_init 1785 = .ok (.bipush 60, 2) := by decide +kernel
theorem dX12_init_1787 : decode cX12_init 1787 = .ok (.newarray .int, 2) := by decide +kernel
theorem dX12_init_1789 : decode cX12_init 1789 = .ok (.putfield 179, 3) := by decide +kernel
theorem dX12_init_1792 : decode cX12_init 1792 = .ok (.aload_n 0, 1) := by decide +kernel
theorem dX12_init_1793 : decode cX12_init 1793 = .ok (.bipush 60, 2) := by decide +kernel
theorem dX12_init_1795 : decode cX12_init 1795 = .ok (.newarray .int, 2) := by decide +kernel
theorem dX12_init_1797 : decode cX12_init 1797 = .ok (.putfield 182, 3) := by decide +kernel
theorem dX12_init_1800 : decode cX12_init 1800 = .ok (.aload_n 0, 1) := by decide +kernel
theorem dX12_init_1801 : decode cX12_init 1801 = .ok (.sipush 400, 3) := by decide +kernel
theorem dX12_init_1804 : decode cX12_init 1804 = .ok (.newarray .int, 2) := by decide +kernel
theorem dX12_init_1806 : decode cX12_init 1806 = .ok (.putfield 185, 3) := by decide +kernel
theorem dX12_init_1809 : decode cX12_init 1809 = .ok (.return_, 1) := by decide +kernel
theorem dX12_isIn_0 : decode cX12_isIn 0 = .ok (.iload_n 1, 1) := by decide +kernel
theorem dX12_isIn_1 : decode cX12_isIn 1 = .ok (.iload_n 2, 1) := by decide +kernel
theorem dX12_isIn_2 : decode cX12_isIn 2 = .ok (.if_icmp .lt 12, 3) := by decide +kernel
theorem dX12_isIn_5 : decode cX12_isIn 5 = .ok (.iload_n 1, 1) := by decide +kernel
theorem dX12_isIn_6 : decode cX12_isIn 6 = .ok (.iload_n 3, 1) := by decide +kernel
theorem dX12_isIn_7 : decode cX12_isIn 7 = .ok (.if_icmp .gt 7, 3) := by decide +kernel
theorem dX12_isIn_10 : decode cX12_isIn 10 = .ok (.iconst 1, 1) := by decide +kernel
theorem dX12_isIn_11 : decode cX12_isIn 11 = .ok (.goto 4, 3) := by decide +kernel
theorem dX12_isIn_14 : decode cX12_isIn 14 = .ok (.iconst 0, 1) := by decide +kernel
theorem dX12_isIn_15 : decode cX12_isIn 15 = .ok (.ireturn, 1) := by decide +kernel
theorem dX12_isSeen_0 : decode cX12_isSeen 0 = .ok (.aload_n 0, 1) := by decide +kernel
theorem dX12_isSeen_1 : decode cX12_isSeen 1 = .ok (.getfield 9, 3) := by decide +kernel
theorem dX12_isSeen_4 : decode cX12_isSeen 4 = .ok (.iconst (-1), 1) := by decide +kernel
theorem dX12_isSeen_5 : decode cX12_isSeen 5 = .ok (.if_icmp .eq 11, 3) := by decide +kernel
theorem dX12_isSeen_8 : decode cX12_isSeen 8 = .ok (.iload_n 1, 1) := by decide +kernel
theorem dX12_isSeen_9 : decode cX12_isSeen 9 = .ok (.aload_n 0, 1) := by decide +kernel
theorem dX12_isSeen_10 : decode cX12_isSeen 10 = .ok (.getfield 9, 3) := by decide +kernel
theorem dX12_isSeen_13 : decode cX12_isSeen 13 = .ok (.if_icmp .gt 7, 3) := by decide +kernel
theorem dX12_isSeen_16 : decode cX12_isSeen 16 = .ok (.iconst 1, 1) := by decide +kernel
theorem dX12_isSeen_17 : decode cX12_isSeen 17 = .ok (.goto 4, 3) := by decide +kernel
theorem dX12_isSeen_20 : decode cX12_isSeen 20 = .ok (.iconst 0, 1) := by decide +kernel
theorem dX12_isSeen_21 : decode cX12_isSeen 21 = .ok (.ireturn, 1) := by decide +kernel
theorem dX12_isTimber_0 : decode cX12_isTimber 0 = .ok (.iload_n 1, 1) := by decide +kernel
theorem dX12_isTimber_1 : decode cX12_isTimber 1 = .ok (.ifCond .lt 28, 3) := by decide +kernel
theorem dX12_isTimber_4 : decode cX12_isTimber 4 = .ok (.iload_n 1, 1) := by decide +kernel
theorem dX12_isTimber_5 : decode cX12_isTimber 5 = .ok (.aload_n 0, 1) := by decide +kernel
theorem dX12_isTimber_6 : decode cX12_isTimber 6 = .ok (.getfield 191, 3) := by decide +kernel
theorem dX12_isTimber_9 : decode cX12_isTimber 9 = .ok (.if_icmp .ge 20, 3) := by decide +kernel
theorem dX12_isTimber_12 : decode cX12_isTimber 12 = .ok (.aload_n 0, 1) := by decide +kernel
theorem dX12_isTimber_13 : decode cX12_isTimber 13 = .ok (.aload_n 0, 1) := by decide +kernel
theorem dX12_isTimber_14 : decode cX12_isTimber 14 = .ok (.getfield 20, 3) := by decide +kernel
theorem dX12_isTimber_17 : decode cX12_isTimber 17 = .ok (.iload_n 1, 1) := by decide +kernel
theorem dX12_isTimber_18 : decode cX12_isTimber 18 = .ok (.iaload, 1) := by decide +kernel
theorem dX12_isTimber_19 : decode cX12_isTimber 19 = .ok (.invokevirtual 194, 3) := by decide +kernel
theorem dX12_isTimber_22 : decode cX12_isTimber 22 = .ok (.ifCond .eq 7, 3) := by decide +kernel
theorem dX12_isTimber_25 : decode cX12_isTimber 25 = .ok (.iconst 1, 1) := by decide +kernel
theorem dX12_isTimber_26 : decode cX12_isTimber 26 = .ok (.goto 4, 3) := by decide +kernel
theorem dX12_isTimber_29 : decode cX12_isTimber 29 = .ok (.iconst 0, 1) := by decide +kernel
theorem dX12_isTimber_30 : decode cX12_isTimber 30 = .ok (.ireturn, 1) := by decide +kernel
theorem dX12_isJoint_0 : decode cX12_isJoint 0 = .ok (.iload_n 1, 1) := by decide +kernel
theorem dX12_isJoint_1 : decode cX12_isJoint 1 = .ok (.ifCond .lt 28, 3) := by decide +kernel
theorem dX12_isJoint_4 : decode cX12_isJoint 4 = .ok (.iload_n 1, 1) := by decide +kernel
theorem dX12_isJoint_5 : decode cX12_isJoint 5 = .ok (.aload_n 0, 1) := by decide +kernel
theorem dX12_isJoint_6 : decode cX12_isJoint 6 = .ok (.getfield 198, 3) := by decide +kernel
theorem dX12_isJoint_9 : decode cX12_isJoint 9 = .ok (.if_icmp .ge 20, 3) := by decide +kernel
theorem dX12_isJoint_12 : decode cX12_isJoint 12 = .ok (.aload_n 0, 1) := by decide +kernel
theorem dX12_isJoint_13 : decode cX12_isJoint 13 = .ok (.aload_n 0, 1) := by decide +kernel
theorem dX12_isJoint_14 : decode cX12_isJoint 14 = .ok (.getfield 54, 3) := by decide +kernel
theorem dX12_isJoint_17 : decode cX12_isJoint 17 = .ok (.iload_n 1, 1) := by decide +kernel
theorem dX12_isJoint_18 : decode cX12_isJoint 18 = .ok (.iaload, 1) := by decide +kernel
theorem dX12_isJoint_19 : decode cX12_isJoint 19 = .ok (.invokevirtual 194, 3) := by decide +kernel
theorem dX12_isJoint_22 : decode cX12_isJoint 22 = .ok (.ifCond .eq 7, 3) := by decide +kernel
theorem dX12_isJoint_25 : decode cX12_isJoint 25 = .ok (.iconst 1, 1) := by decide +kernel
theorem dX12_isJoint_26 : decode cX12_isJoint 26 = .ok (.goto 4, 3) := by decide +kernel
theorem dX12_isJoint_29 : decode cX12_isJoint 29 = .ok (.iconst 0, 1) := by decide +kernel
theorem dX12_isJoint_30 : decode cX12_isJoint 30 = .ok (.ireturn, 1) := by decide +kernel
theorem dX12_days_0 : decode cX12_days 0 = .ok (.aload_n 0, 1) := by decide +kernel
theorem dX12_days_1 : decode cX12_days 1 = .ok (.iconst 0, 1) := by decide +kernel
theorem dX12_days_2 : decode cX12_days 2 = .ok (.putfield 188, 3) := by decide +kernel
theorem dX12_days_5 : decode cX12_days 5 = .ok (.aload_n 0, 1) := by decide +kernel
theorem dX12_days_6 : decode cX12_days 6 = .ok (.iload_n 1, 1) := by decide +kernel
theorem dX12_days_7 : decode cX12_days 7 = .ok (.iconst 1, 1) := by decide +kernel
theorem dX12_days_8 : decode cX12_days 8 = .ok (.sipush 1000, 3) := by decide +kernel
theorem dX12_days_11 : decode cX12_days 11 = .ok (.invokevirtual 201, 3) := by decide +kernel
theorem dX12_days_14 : decode cX12_days 14 = .ok (.ifCond .eq 15, 3) := by decide +kernel
theorem dX12_days_17 : decode cX12_days 17 = .ok (.aload_n 0, 1) := by decide +kernel
theorem dX12_days_18 : decode cX12_days 18 = .ok (.getfield 205, 3) := by decide +kernel
theorem dX12_days_21 : decode cX12_days 21 = .ok (.iload_n 1, 1) := by decide +kernel
theorem dX12_days_22 : decode cX12_days 22 = .ok (.iadd, 1) := by decide +kernel
theorem dX12_days_23 : decode cX12_days 23 = .ok (.sipush 9999, 3) := by decide +kernel
theorem dX12_days_26 : decode cX12_days 26 = .ok (.if_icmp .le 5, 3) := by decide +kernel
theorem dX12_days_29 : decode cX12_days 29 = .ok (.iconst (-1), 1) := by decide +kernel
theorem dX12_days_30 : decode cX12_days 30 = .ok (.ireturn, 1) := by decide +kernel
theorem dX12_days_31 : decode cX12_days 31 = .ok (.aload_n 0, 1) := by decide +kernel
theorem dX12_days_32 : decode cX12_days 32 = .ok (.aload_n 0, 1) := by decide +kernel
theorem dX12_days_33 : decode cX12_days 33 = .ok (.getfield 205, 3) := by decide +kernel
theorem dX12_days_36 : decode cX12_days 36 = .ok (.iload_n 1, 1) := by decide +kernel
theorem dX12_days_37 : decode cX12_days 37 = .ok (.iadd, 1) := by decide +kernel
theorem dX12_days_38 : decode cX12_days 38 = .ok (.putfield 205, 3) := by decide +kernel
theorem dX12_days_41 : decode cX12_days 41 = .ok (.aload_n 0, 1) := by decide +kernel
theorem dX12_days_42 : decode cX12_days 42 = .ok (.getfield 205, 3) := by decide +kernel
theorem dX12_days_45 : decode cX12_days 45 = .ok (.ireturn, 1) := by decide +kernel
theorem dX12_view_0 : decode cX12_view 0 = .ok (.aload_n 0, 1) := by decide +kernel
theorem dX12_view_1 : decode cX12_view 1 = .ok (.iconst 0, 1) := by decide +kernel
theorem dX12_view_2 : decode cX12_view 2 = .ok (.putfield 188, 3) := by decide +kernel
theorem dX12_view_5 : decode cX12_view 5 = .ok (.aload_n 0, 1) := by decide +kernel
theorem dX12_view_6 : decode cX12_view 6 = .ok (.iload_n 1, 1) := by decide +kernel
theorem dX12_view_7 : decode cX12_view 7 = .ok (.iconst (-1), 1) := by decide +kernel
theorem dX12_view_8 : decode cX12_view 8 = .ok (.aload_n 0, 1) := by decide +kernel
theorem dX12_view_9 : decode cX12_view 9 = .ok (.getfield 205, 3) := by decide +kernel
theorem dX12_view_12 : decode cX12_view 12 = .ok (.invokevirtual 201, 3) := by decide +kernel
theorem dX12_view_15 : decode cX12_view 15 = .ok (.ifCond .ne 5, 3) := by decide +kernel
theorem dX12_view_18 : decode cX12_view 18 = .ok (.iconst 0, 1) := by decide +kernel
theorem dX12_view_19 : decode cX12_view 19 = .ok (.ireturn, 1) := by decide +kernel
theorem dX12_view_20 : decode cX12_view 20 = .ok (.aload_n 0, 1) := by decide +kernel
theorem dX12_view_21 : decode cX12_view 21 = .ok (.iload_n 1, 1) := by decide +kernel
theorem dX12_view_22 : decode cX12_view 22 = .ok (.putfield 9, 3) := by decide +kernel
theorem dX12_view_25 : decode cX12_view 25 = .ok (.iconst 1, 1) := by decide +kernel
theorem dX12_view_26 : decode cX12_view 26 = .ok (.ireturn, 1) := by decide +kernel
theorem dX12_timber_0 : decode cX12_timber 0 = .ok (.aload_n 0, 1) := by decide +kernel
theorem dX12_timber_1 : decode cX12_timber 1 = .ok (.iconst 0, 1) := by decide +kernel
theorem dX12_timber_2 : decode cX12_timber 2 = .ok (.putfield 188, 3) := by decide +kernel
theorem dX12_timber_5 : decode cX12_timber 5 = .ok (.aload_n 0, 1) := by decide +kernel
theorem dX12_timber_6 : decode cX12_timber 6 = .ok (.iload_n 1, 1) := by decide +kernel
theorem dX12_timber_7 : decode cX12_timber 7 = .ok (.iconst 0, 1) := by decide +kernel
theorem dX12_timber_8 : decode cX12_timber 8 = .ok (.iconst 3, 1) := by decide +kernel
theorem dX12_timber_9 : decode cX12_timber 9 = .ok (.invokevirtual 201, 3) := by decide +kernel
theorem dX12_timber_12 : decode cX12_timber 12 = .ok (.ifCond .eq 23, 3) := by decide +kernel
theorem dX12_timber_15 : decode cX12_timber 15 = .ok (.aload_n 0, 1) := by decide +kernel
theorem dX12_timber_16 : decode cX12_timber 16 = .ok (.iload_n 2, 1) := by decide +kernel
theorem dX12_timber_17 : decode cX12_timber 17 = .ok (.iconst 1, 1) := by decide +kernel
theorem dX12_timber_18 : decode cX12_timber 18 = .ok (.bipush 99, 2) := by decide +kernel
theorem dX12_timber_20 : decode cX12_timber 20 = .ok (.invokevirtual 201, 3) := by decide +kernel
theorem dX12_timber_23 : decode cX12_timber 23 = .ok (.ifCond .eq 12, 3) := by decide +kernel
theorem dX12_timber_26 : decode cX12_timber 26 = .ok (.aload_n 0, 1) := by decide +kernel
theorem dX12_timber_27 : decode cX12_timber 27 = .ok (.getfield 191, 3) := by decide +kernel
theorem dX12_timber_30 : decode cX12_timber 30 = .ok (.bipush 16, 2) := by decide +kernel
theorem dX12_timber_32 : decode cX12_timber 32 = .ok (.if_icmp .ne 5, 3) := by decide +kernel
theorem dX12_timber_35 : decode cX12_timber 35 = .ok (.iconst (-1), 1) := by decide +kernel
theorem dX12_timber_36 : decode cX12_timber 36 = .ok (.ireturn, 1) := by decide +kernel
theorem dX12_timber_37 : decode cX12_timber 37 = .ok (.aload_n 0, 1) := by decide +kernel
theorem dX12_timber_38 : decode cX12_timber 38 = .ok (.getfield 13, 3) := by decide +kernel
theorem dX12_timber_41 : decode cX12_timber 41 = .ok (.aload_n 0, 1) := by decide +kernel
theorem dX12_timber_42 : decode cX12_timber 42 = .ok (.getfield 191, 3) := by decide +kernel
theorem dX12_timber_45 : decode cX12_timber 45 = .ok (.iload_n 1, 1) := by decide +kernel
theorem dX12_timber_46 : decode cX12_timber 46 = .ok (.iastore, 1) := by decide +kernel
theorem dX12_timber_47 : decode cX12_timber 47 = .ok (.aload_n 0, 1) := by decide +kernel
theorem dX12_timber_48 : decode cX12_timber 48 = .ok (.getfield 17, 3) := by decide +kernel
theorem dX12_timber_51 : decode cX12_timber 51 = .ok (.aload_n 0, 1) := by decide +kernel
theorem dX12_timber_52 : decode cX12_timber 52 = .ok (.getfield 191, 3) := by decide +kernel
theorem dX12_timber_55 : decode cX12_timber 55 = .ok (.iload_n 2, 1) := by decide +kernel
theorem dX12_timber_56 : decode cX12_timber 56 = .ok (.iastore, 1) := by decide +kernel
theorem dX12_timber_57 : decode cX12_timber 57 = .ok (.aload_n 0, 1) := by decide +kernel
theorem dX12_timber_58 : decode cX12_timber 58 = .ok (.getfield 20, 3) := by decide +kernel
theorem dX12_timber_61 : decode cX12_timber 61 = .ok (.aload_n 0, 1) := by decide +kernel
theorem dX12_timber_62 : decode cX12_timber 62 = .ok (.getfield 191, 3) := by decide +kernel
theorem dX12_timber_65 : decode cX12_timber 65 = .ok (.aload_n 0, 1) := by decide +kernel
theorem dX12_timber_66 : decode cX12_timber 66 = .ok (.getfield 205, 3) := by decide +kernel
theorem dX12_timber_69 : decode cX12_timber 69 = .ok (.iastore, 1) := by decide +kernel
theorem dX12_timber_70 : decode cX12_timber 70 = .ok (.aload_n 0, 1) := by decide +kernel
theorem dX12_timber_71 : decode cX12_timber 71 = .ok (.aload_n 0, 1) := by decide +kernel
theorem dX12_timber_72 : decode cX12_timber 72 = .ok (.getfield 191, 3) := by decide +kernel
theorem dX12_timber_75 : decode cX12_timber 75 = .ok (.iconst 1, 1) := by decide +kernel
theorem dX12_timber_76 : decode cX12_timber 76 = .ok (.iadd, 1) := by decide +kernel
theorem dX12_timber_77 : decode cX12_timber 77 = .ok (.putfield 191, 3) := by decide +kernel
theorem dX12_timber_80 : decode cX12_timber 80 = .ok (.aload_n 0, 1) := by decide +kernel
theorem dX12_timber_81 : decode cX12_timber 81 = .ok (.getfield 191, 3) := by decide +kernel
theorem dX12_timber_84 : decode cX12_timber 84 = .ok (.iconst 1, 1) := by decide +kernel
theorem dX12_timber_85 : decode cX12_timber 85 = .ok (.isub, 1) := by decide +kernel
theorem dX12_timber_86 : decode cX12_timber 86 = .ok (.ireturn, 1) := by decide +kernel
theorem dX12_joint_0 : decode cX12_joint 0 = .ok (.aload_n 0, 1) := by decide +kernel
theorem dX12_joint_1 : decode cX12_joint 1 = .ok (.iconst 0, 1) := by decide +kernel
theorem dX12_joint_2 : decode cX12_joint 2 = .ok (.putfield 188, 3) := by decide +kernel
theorem dX12_joint_5 : decode cX12_joint 5 = .ok (.aload_n 0, 1) := by decide +kernel
theorem dX12_joint_6 : decode cX12_joint 6 = .ok (.iload_n 1, 1) := by decide +kernel
theorem dX12_joint_7 : decode cX12_joint 7 = .ok (.iconst 0, 1) := by decide +kernel
theorem dX12_joint_8 : decode cX12_joint 8 = .ok (.aload_n 0, 1) := by decide +kernel
theorem dX12_joint_9 : decode cX12_joint 9 = .ok (.getfield 191, 3) := by decide +kernel
theorem dX12_joint_12 : decode cX12_joint 12 = .ok (.iconst 1, 1) := by decide +kernel
theorem dX12_joint_13 : decode cX12_joint 13 = .ok (.isub, 1) := by decide +kernel
theorem dX12_joint_14 : decode cX12_joint 14 = .ok (.invokevirtual 201, 3) := by decide +kernel
theorem dX12_joint_17 : decode cX12_joint 17 = .ok (.ifCond .eq 60, 3) := by decide +kernel
theorem dX12_joint_20 : decode cX12_joint 20 = .ok (.aload_n 0, 1) := by decide +kernel
theorem dX12_joint_21 : decode cX12_joint 21 = .ok (.iload_n 2, 1) := by decide +kernel
theorem dX12_joint_22 : decode cX12_joint 22 = .ok (.iconst 0, 1) := by decide +kernel
theorem dX12_joint_23 : decode cX12_joint 23 = .ok (.aload_n 0, 1) := by decide +kernel
theorem dX12_joint_24 : decode cX12_joint 24 = .ok (.getfield 17, 3) := by decide +kernel
theorem dX12_joint_27 : decode cX12_joint 27 = .ok (.iload_n 1, 1) := by decide +kernel
theorem dX12_joint_28 : decode cX12_joint 28 = .ok (.iaload, 1) := by decide +kernel
theorem dX12_joint_29 : decode cX12_joint 29 = .ok (.invokevirtual 201, 3) := by decide +kernel
theorem dX12_joint_32 : decode cX12_joint 32 = .ok (.ifCond .eq 45, 3) := by decide +kernel
theorem dX12_joint_35 : decode cX12_joint 35 = .ok (.aload_n 0, 1) := by decide +kernel
theorem dX12_joint_36 : decode cX12_joint 36 = .ok (.iload_n 3, 1) := by decide +kernel
theorem dX12_joint_37 : decode cX12_joint 37 = .ok (.iconst 0, 1) := by decide +kernel
theorem dX12_joint_38 : decode cX12_joint 38 = .ok (.iconst 1, 1) := by decide +kernel
theorem dX12_joint_39 : decode cX12_joint 39 = .ok (.invokevirtual 201, 3) := by decide +kernel
theorem dX12_joint_42 : decode cX12_joint 42 = .ok (.ifCond .eq 35, 3) := by decide +kernel
theorem dX12_joint_45 : decode cX12_joint 45 = .ok (.aload_n 0, 1) := by decide +kernel
theorem dX12_joint_46 : decode cX12_joint 46 = .ok (.iload 4, 2) := by decide +kernel
theorem dX12_joint_48 : decode cX12_joint 48 = .ok (.iconst 1, 1) := by decide +kernel
theorem dX12_joint_49 : decode cX12_joint 49 = .ok (.bipush 9, 2) := by decide +kernel
theorem dX12_joint_51 : decode cX12_joint 51 = .ok (.invokevirtual 201, 3) := by decide +kernel
theorem dX12_joint_54 : decode cX12_joint 54 = .ok (.ifCond .eq 23, 3) := by decide +kernel
theorem dX12_joint_57 : decode cX12_joint 57 = .ok (.aload_n 0, 1) := by decide +kernel
theorem dX12_joint_58 : decode cX12_joint 58 = .ok (.getfield 23, 3) := by decide +kernel
theorem dX12_joint_61 : decode cX12_joint 61 = .ok (.iload_n 1, 1) := by decide +kernel
theorem dX12_joint_62 : decode cX12_joint 62 = .ok (.iaload, 1) := by decide +kernel
theorem dX12_joint_63 : decode cX12_joint 63 = .ok (.bipush 6, 2) := by decide +kernel
theorem dX12_joint_65 : decode cX12_joint 65 = .ok (.if_icmp .eq 12, 3) := by decide +kernel
theorem dX12_joint_68 : decode cX12_joint 68 = .ok (.aload_n 0, 1) := by decide +kernel
theorem dX12_joint_69 : decode cX12_joint 69 = .ok (.getfield 198, 3) := by decide +kernel
theorem dX12_joint_72 : decode cX12_joint 72 = .ok (.bipush 48, 2) := by decide +kernel
theorem dX12_joint_74 : decode cX12_joint 74 = .ok (.if_icmp .ne 5, 3) := by decide +kernel
theorem dX12_joint_77 : decode cX12_joint 77 = .ok (.iconst (-1), 1) := by decide +kernel
theorem dX12_joint_78 : decode cX12_joint 78 = .ok (.ireturn, 1) := by decide +kernel
theorem dX12_joint_79 : decode cX12_joint 79 = .ok (.aload_n 0, 1) := by decide +kernel
theorem dX12_joint_80 : decode cX12_joint 80 = .ok (.getfield 42, 3) := by decide +kernel
theorem dX12_joint_83 : decode cX12_joint 83 = .ok (.aload_n 0, 1) := by decide +kernel
theorem dX12_joint_84 : decode cX12_joint 84 = .ok (.getfield 198, 3) := by decide +kernel
theorem dX12_joint_87 : decode cX12_joint 87 = .ok (.iload_n 1, 1) := by decide +kernel
theorem dX12_joint_88 : decode cX12_joint 88 = .ok (.iastore, 1) := by decide +kernel
theorem dX12_joint_89 : decode cX12_joint 89 = .ok (.aload_n 0, 1) := by decide +kernel
theorem dX12_joint_90 : decode cX12_joint 90 = .ok (.getfield 45, 3) := by decide +kernel
theorem dX12_joint_93 : decode cX12_joint 93 = .ok (.aload_n 0, 1) := by decide +kernel
theorem dX12_joint_94 : decode cX12_joint 94 = .ok (.getfield 198, 3) := by decide +kernel
theorem dX12_joint_97 : decode cX12_joint 97 = .ok (.iload_n 2, 1) := by decide +kernel
theorem dX12_joint_98 : decode cX12_joint 98 = .ok (.iastore, 1) := by decide +kernel
theorem dX12_joint_99 : decode cX12_joint 99 = .ok (.aload_n 0, 1) := by decide +kernel
theorem dX12_joint_100 : decode cX12_joint 100 = .ok (.getfield 48, 3) := by decide +kernel
theorem dX12_joint_103 : decode cX12_joint 103 = .ok (.aload_n 0, 1) := by decide +kernel
theorem dX12_joint_104 : decode cX12_joint 104 = .ok (.getfield 198, 3) := by decide +kernel
theorem dX12_joint_107 : decode cX12_joint 107 = .ok (.iload_n 3, 1) := by decide +kernel
theorem dX12_joint_108 : decode cX12_joint 108 = .ok (.iastore, 1) := by decide +kernel
theorem dX12_joint_109 : decode cX12_joint 109 = .ok (.aload_n 0, 1) := by decide +kernel
theorem dX12_joint_110 : decode cX12_joint 110 = .ok (.getfield 51, 3) := by decide +kernel
theorem dX12_joint_113 : decode cX12_joint 113 = .ok (.aload_n 0, 1) := by decide +kernel
theorem dX12_joint_114 : decode cX12_joint 114 = .ok (.getfield 198, 3) := by decide +kernel
theorem dX12_joint_117 : decode cX12_joint 117 = .ok (.iload 4, 2) := by decide +kernel
theorem dX12_joint_119 : decode cX12_joint 119 = .ok (.iastore, 1) := by decide +kernel
theorem dX12_joint_120 : decode cX12_joint 120 = .ok (.aload_n 0, 1) := by decide +kernel
theorem dX12_joint_121 : decode cX12_joint 121 = .ok (.getfield 54, 3) := by decide +kernel
theorem dX12_joint_124 : decode cX12_joint 124 = .ok (.aload_n 0, 1) := by decide +kernel
theorem dX12_joint_125 : decode cX12_joint 125 = .ok (.getfield 198, 3) := by decide +kernel
theorem dX12_joint_128 : decode cX12_joint 128 = .ok (.aload_n 0, 1) := by decide +kernel
theorem dX12_joint_129 : decode cX12_joint 129 = .ok (.getfield 205, 3) := by decide +kernel
theorem dX12_joint_132 : decode cX12_joint 132 = .ok (.iastore, 1) := by decide +kernel
theorem dX12_joint_133 : decode cX12_joint 133 = .ok (.aload_n 0, 1) := by decide +kernel
theorem dX12_joint_134 : decode cX12_joint 134 = .ok (.getfield 23, 3) := by decide +kernel
theorem dX12_joint_137 : decode cX12_joint 137 = .ok (.iload_n 1, 1) := by decide +kernel
theorem dX12_joint_138 : decode cX12_joint 138 = .ok (.aload_n 0, 1) := by decide +kernel
theorem dX12_joint_139 : decode cX12_joint 139 = .ok (.getfield 23, 3) := by decide +kernel
theorem dX12_joint_142 : decode cX12_joint 142 = .ok (.iload_n 1, 1) := by decide +kernel
theorem dX12_joint_143 : decode cX12_joint 143 = .ok (.iaload, 1) := by decide +kernel
theorem dX12_joint_144 : decode cX12_joint 144 = .ok (.iconst 1, 1) := by decide +kernel
theorem dX12_joint_145 : decode cX12_joint 145 = .ok (.iadd, 1) := by decide +kernel
theorem dX12_joint_146 : decode cX12_joint 146 = .ok (.iastore, 1) := by decide +kernel
theorem dX12_joint_147 : decode cX12_joint 147 = .ok (.aload_n 0, 1) := by decide +kernel
theorem dX12_joint_148 : decode cX12_joint 148 = .ok (.aload_n 0, 1) := by decide +kernel
theorem dX12_joint_149 : decode cX12_joint 149 = .ok (.getfield 198, 3) := by decide +kernel
theorem dX12_joint_152 : decode cX12_joint 152 = .ok (.iconst 1, 1) := by decide +kernel
theorem dX12_joint_153 : decode cX12_joint 153 = .ok (.iadd, 1) := by decide +kernel
theorem dX12_joint_154 : decode cX12_joint 154 = .ok (.putfield 198, 3) := by decide +kernel
theorem dX12_joint_157 : decode cX12_joint 157 = .ok (.aload_n 0, 1) := by decide +kernel
theorem dX12_joint_158 : decode cX12_joint 158 = .ok (.getfield 198, 3) := by decide +kernel
theorem dX12_joint_161 : decode cX12_joint 161 = .ok (.iconst 1, 1) := by decide +kernel
theorem dX12_joint_162 : decode cX12_joint 162 = .ok (.isub, 1) := by decide +kernel
theorem dX12_joint_163 : decode cX12_joint 163 = .ok (.ireturn, 1) := by decide +kernel
theorem dX12_puts_0 : decode cX12_puts 0 = .ok (.bipush 24, 2) := by decide +kernel
theorem dX12_puts_2 : decode cX12_puts 2 = .ok (.istore_n 2, 1) := by decide +kernel
theorem dX12_puts_3 : decode cX12_puts 3 = .ok (.iload_n 2, 1) := by decide +kernel
theorem dX12_puts_4 : decode cX12_puts 4 = .ok (.ifCond .lt 35, 3) := by decide +kernel
theorem dX12_puts_7 : decode cX12_puts 7 = .ok (.aload_n 0, 1) := by decide +kernel
theorem dX12_puts_8 : decode cX12_puts 8 = .ok (.getfield 72, 3) := by decide +kernel
theorem dX12_puts_11 : decode cX12_puts 11 = .ok (.aload_n 0, 1) := by decide +kernel
theorem dX12_puts_12 : decode cX12_puts 12 = .ok (.getfield 208, 3) := by decide +kernel
theorem dX12_puts_15 : decode cX12_puts 15 = .ok (.iload_n 1, 1) := by decide +kernel
theorem dX12_puts_16 : decode cX12_puts 16 = .ok (.iload_n 2, 1) := by decide +kernel
theorem dX12_puts_17 : decode cX12_puts 17 = .ok (.ishr, 1) := by decide +kernel
theorem dX12_puts_18 : decode cX12_puts 18 = .ok (.sipush 255, 3) := by decide +kernel
theorem dX12_puts_21 : decode cX12_puts 21 = .ok (.iand, 1) := by decide +kernel
theorem dX12_puts_22 : decode cX12_puts 22 = .ok (.iastore, 1) := by decide +kernel
theorem dX12_puts_23 : decode cX12_puts 23 = .ok (.aload_n 0, 1) := by decide +kernel
theorem dX12_puts_24 : decode cX12_puts 24 = .ok (.aload_n 0, 1) := by decide +kernel
theorem dX12_puts_25 : decode cX12_puts 25 = .ok (.getfield 208, 3) := by decide +kernel
theorem dX12_puts_28 : decode cX12_puts 28 = .ok (.iconst 1, 1) := by decide +kernel
theorem dX12_puts_29 : decode cX12_puts 29 = .ok (.iadd, 1) := by decide +kernel
theorem dX12_puts_30 : decode cX12_puts 30 = .ok (.putfield 208, 3) := by decide +kernel
theorem dX12_puts_33 : decode cX12_puts 33 = .ok (.iinc 2 (-8), 3) := by decide +kernel
theorem dX12_puts_36 : decode cX12_puts 36 = .ok (.goto (-33), 3) := by decide +kernel
theorem dX12_puts_39 : decode cX12_puts 39 = .ok (.return_, 1) := by decide +kernel
theorem dX12_feed_0 : decode cX12_feed 0 = .ok (.aload_n 0, 1) := by decide +kernel
theorem dX12_feed_1 : decode cX12_feed 1 = .ok (.iconst 0, 1) := by decide +kernel
theorem dX12_feed_2 : decode cX12_feed 2 = .ok (.putfield 188, 3) := by decide +kernel
theorem dX12_feed_5 : decode cX12_feed 5 = .ok (.aload_n 0, 1) := by decide +kernel
theorem dX12_feed_6 : decode cX12_feed 6 = .ok (.getfield 208, 3) := by decide +kernel
theorem dX12_feed_9 : decode cX12_feed 9 = .ok (.sipush 780, 3) := by decide +kernel
theorem dX12_feed_12 : decode cX12_feed 12 = .ok (.if_icmp .le 5, 3) := by decide +kernel
theorem dX12_feed_15 : decode cX12_feed 15 = .ok (.iconst (-1), 1) := by decide +kernel
theorem dX12_feed_16 : decode cX12_feed 16 = .ok (.ireturn, 1) := by decide +kernel
theorem dX12_feed_17 : decode cX12_feed 17 = .ok (.aload_n 0, 1) := by decide +kernel
theorem dX12_feed_18 : decode cX12_feed 18 = .ok (.iload_n 1, 1) := by decide +kernel
theorem dX12_feed_19 : decode cX12_feed 19 = .ok (.invokevirtual 211, 3) := by decide +kernel
theorem dX12_feed_22 : decode cX12_feed 22 = .ok (.aload_n 0, 1) := by decide +kernel
theorem dX12_feed_23 : decode cX12_feed 23 = .ok (.iload_n 2, 1) := by decide +kernel
theorem dX12_feed_24 : decode cX12_feed 24 = .ok (.invokevirtual 211, 3) := by decide +kernel
theorem dX12_feed_27 : decode cX12_feed 27 = .ok (.aload_n 0, 1) := by decide +kernel
theorem dX12_feed_28 : decode cX12_feed 28 = .ok (.iload_n 3, 1) := by decide +kernel
theorem dX12_feed_29 : decode cX12_feed 29 = .ok (.invokevirtual 211, 3) := by decide +kernel
theorem dX12_feed_32 : decode cX12_feed 32 = .ok (.aload_n 0, 1) := by decide +kernel
theorem dX12_feed_33 : decode cX12_feed 33 = .ok (.iload 4, 2) := by decide +kernel
theorem dX12_feed_35 : decode cX12_feed 35 = .ok (.invokevirtual 211, 3) := by decide +kernel
theorem dX12_feed_38 : decode cX12_feed 38 = .ok (.aload_n 0, 1) := by decide +kernel
theorem dX12_feed_39 : decode cX12_feed 39 = .ok (.iload 5, 2) := by decide +kernel
theorem dX12_feed_41 : decode cX12_feed 41 = .ok (.invokevirtual 211, 3) := by decide +kernel
theorem dX12_feed_44 : decode cX12_feed 44 = .ok (.aload_n 0, 1) := by decide +kernel
theorem dX12_feed_45 : decode cX12_feed 45 = .ok (.getfield 208, 3) := by decide +kernel
theorem dX12_feed_48 : decode cX12_feed 48 = .ok (.ireturn, 1) := by decide +kernel
theorem dX12_end_0 : decode cX12_end 0 = .ok (.aload_n 0, 1) := by decide +kernel
theorem dX12_end_1 : decode cX12_end 1 = .ok (.iconst 0, 1) := by decide +kernel
theorem dX12_end_2 : decode cX12_end 2 = .ok (.putfield 188, 3) := by decide +kernel
theorem dX12_end_5 : decode cX12_end 5 = .ok (.aload_n 0, 1) := by decide +kernel
theorem dX12_end_6 : decode cX12_end 6 = .ok (.iload_n 1, 1) := by decide +kernel
theorem dX12_end_7 : decode cX12_end 7 = .ok (.iconst 0, 1) := by decide +kernel
theorem dX12_end_8 : decode cX12_end 8 = .ok (.aload_n 0, 1) := by decide +kernel
theorem dX12_end_9 : decode cX12_end 9 = .ok (.getfield 208, 3) := by decide +kernel
theorem dX12_end_12 : decode cX12_end 12 = .ok (.invokevirtual 201, 3) := by decide +kernel
theorem dX12_end_15 : decode cX12_end 15 = .ok (.ifCond .ne 5, 3) := by decide +kernel
theorem dX12_end_18 : decode cX12_end 18 = .ok (.iconst 0, 1) := by decide +kernel
theorem dX12_end_19 : decode cX12_end 19 = .ok (.ireturn, 1) := by decide +kernel
theorem dX12_end_20 : decode cX12_end 20 = .ok (.aload_n 0, 1) := by decide +kernel
theorem dX12_end_21 : decode cX12_end 21 = .ok (.iload_n 1, 1) := by decide +kernel
theorem dX12_end_22 : decode cX12_end 22 = .ok (.putfield 208, 3) := by decide +kernel
theorem dX12_end_25 : decode cX12_end 25 = .ok (.iconst 1, 1) := by decide +kernel
theorem dX12_end_26 : decode cX12_end 26 = .ok (.ireturn, 1) := by decide +kernel
theorem dX12_isSign_0 : decode cX12_isSign 0 = .ok (.iload_n 1, 1) := by decide +kernel
theorem dX12_isSign_1 : decode cX12_isSign 1 = .ok (.bipush 73, 2) := by decide +kernel
theorem dX12_isSign_3 : decode cX12_isSign 3 = .ok (.if_icmp .eq 21, 3) := by decide +kernel
theorem dX12_isSign_6 : decode cX12_isSign 6 = .ok (.iload_n 1, 1) := by decide +kernel
theorem dX12_isSign_7 : decode cX12_isSign 7 = .ok (.bipush 86, 2) := by decide +kernel
theorem dX12_isSign_9 : decode cX12_isSign 9 = .ok (.if_icmp .eq 15, 3) := by decide +kernel
theorem dX12_isSign_12 : decode cX12_isSign 12 = .ok (.iload_n 1, 1) := by decide +kernel
theorem dX12_isSign_13 : decode cX12_isSign 13 = .ok (.bipush 88, 2) := by decide +kernel
theorem dX12_isSign_15 : decode cX12_isSign 15 = .ok (.if_icmp .eq 9, 3) := by decide +kernel
theorem dX12_isSign_18 : decode cX12_isSign 18 = .ok (.iload_n 1, 1) := by decide +kernel
theorem dX12_isSign_19 : decode cX12_isSign 19 = .ok (.bipush 63, 2) := by decide +kernel
theorem dX12_isSign_21 : decode cX12_isSign 21 = .ok (.if_icmp .ne 7, 3) := by decide +kernel
theorem dX12_isSign_24 : decode cX12_isSign 24 = .ok (.iconst 1, 1) := by decide +kernel
theorem dX12_isSign_25 : decode cX12_isSign 25 = .ok (.goto 4, 3) := by decide +kernel
theorem dX12_isSign_28 : decode cX12_isSign 28 = .ok (.iconst 0, 1) := by decide +kernel
theorem dX12_isSign_29 : decode cX12_isSign 29 = .ok (.ireturn, 1) := by decide +kernel
theorem dX12_mark_0 : decode cX12_mark 0 = .ok (.aload_n 0, 1) := by decide +kernel
theorem dX12_mark_1 : decode cX12_mark 1 = .ok (.iconst 0, 1) := by decide +kernel
theorem dX12_mark_2 : decode cX12_mark 2 = .ok (.putfield 188, 3) := by decide +kernel
theorem dX12_mark_5 : decode cX12_mark 5 = .ok (.aload_n 0, 1) := by decide +kernel
theorem dX12_mark_6 : decode cX12_mark 6 = .ok (.getfield 208, 3) := by decide +kernel
theorem dX12_mark_9 : decode cX12_mark 9 = .ok (.istore_n 2, 1) := by decide +kernel
theorem dX12_mark_10 : decode cX12_mark 10 = .ok (.aload_n 0, 1) := by decide +kernel
theorem dX12_mark_11 : decode cX12_mark 11 = .ok (.iconst 0, 1) := by decide +kernel
theorem dX12_mark_12 : decode cX12_mark 12 = .ok (.putfield 208, 3) := by decide +kernel
theorem dX12_mark_15 : decode cX12_mark 15 = .ok (.iload_n 2, 1) := by decide +kernel
theorem dX12_mark_16 : decode cX12_mark 16 = .ok (.ifCond .le 20, 3) := by decide +kernel
theorem dX12_mark_19 : decode cX12_mark 19 = .ok (.aload_n 0, 1) := by decide +kernel
theorem dX12_mark_20 : decode cX12_mark 20 = .ok (.getfield 72, 3) := by decide +kernel
theorem dX12_mark_23 : decode cX12_mark 23 = .ok (.iload_n 2, 1) := by decide +kernel
theorem dX12_mark_24 : decode cX12_mark 24 = .ok (.iconst 1, 1) := by decide +kernel
theorem dX12_mark_25 : decode cX12_mark 25 = .ok (.isub, 1) := by decide +kernel
theorem dX12_mark_26 : decode cX12_mark 26 = .ok (.iaload, 1) := by decide +kernel
theorem dX12_mark_27 : decode cX12_mark 27 = .ok (.bipush 39, 2) := by decide +kernel
theorem dX12_mark_29 : decode cX12_mark 29 = .ok (.if_icmp .ne 7, 3) := by decide +kernel
theorem dX12_mark_32 : decode cX12_mark 32 = .ok (.iconst 1, 1) := by decide +kernel
theorem dX12_mark_33 : decode cX12_mark 33 = .ok (.goto 4, 3) := by decide +kernel
theorem dX12_mark_36 : decode cX12_mark 36 = .ok (.iconst 0, 1) := by decide +kernel
theorem dX12_mark_37 : decode cX12_mark 37 = .ok (.istore_n 3, 1) := by decide +kernel
theorem dX12_mark_38 : decode cX12_mark 38 = .ok (.iload_n 2, 1) := by decide +kernel
theorem dX12_mark_39 : decode cX12_mark 39 = .ok (.iload_n 3, 1) := by decide +kernel
theorem dX12_mark_40 : decode cX12_mark 40 = .ok (.isub, 1) := by decide +kernel
theorem dX12_mark_41 : decode cX12_mark 41 = .ok (.istore 4, 2) := by decide +kernel
theorem dX12_mark_43 : decode cX12_mark 43 = .ok (.aload_n 0, 1) := by decide +kernel
theorem dX12_mark_44 : decode cX12_mark 44 = .ok (.iload_n 1, 1) := by decide +kernel
theorem dX12_mark_45 : decode cX12_mark 45 = .ok (.iconst 0, 1) := by decide +kernel
theorem dX12_mark_46 : decode cX12_mark 46 = .ok (.aload_n 0, 1) := by decide +kernel
theorem dX12_mark_47 : decode cX12_mark 47 = .ok (.getfield 198, 3) := by decide +kernel
theorem dX12_mark_50 : decode cX12_mark 50 = .ok (.iconst 1, 1) := by decide +kernel
theorem dX12_mark_51 : decode cX12_mark 51 = .ok (.isub, 1) := by decide +kernel
theorem dX12_mark_52 : decode cX12_mark 52 = .ok (.invokevirtual 201, 3) := by decide +kernel
theorem dX12_mark_55 : decode cX12_mark 55 = .ok (.ifCond .eq 20, 3) := by decide +kernel
theorem dX12_mark_58 : decode cX12_mark 58 = .ok (.iload 4, 2) := by decide +kernel
theorem dX12_mark_60 : decode cX12_mark 60 = .ok (.bipush 6, 2) := by decide +kernel
theorem dX12_mark_62 : decode cX12_mark 62 = .ok (.if_icmp .gt 13, 3) := by decide +kernel
theorem dX12_mark_65 : decode cX12_mark 65 = .ok (.aload_n 0, 1) := by decide +kernel
theorem dX12_mark_66 : decode cX12_mark 66 = .ok (.getfield 215, 3) := by decide +kernel
theorem dX12_mark_69 : decode cX12_mark 69 = .ok (.sipush 200, 3) := by decide +kernel
theorem dX12_mark_72 : decode cX12_mark 72 = .ok (.if_icmp .ne 5, 3) := by decide +kernel
theorem dX12_mark_75 : decode cX12_mark 75 = .ok (.iconst (-1), 1) := by decide +kernel
theorem dX12_mark_76 : decode cX12_mark 76 = .ok (.ireturn, 1) := by decide +kernel
theorem dX12_mark_77 : decode cX12_mark 77 = .ok (.iconst 0, 1) := by decide +kernel
theorem dX12_mark_78 : decode cX12_mark 78 = .ok (.istore 5, 2) := by decide +kernel
theorem dX12_mark_80 : decode cX12_mark 80 = .ok (.iload 5, 2) := by decide +kernel
theorem dX12_mark_82 : decode cX12_mark 82 = .ok (.iload 4, 2) := by decide +kernel
theorem dX12_mark_84 : decode cX12_mark 84 = .ok (.if_icmp .ge 25, 3) := by decide +kernel
theorem dX12_mark_87 : decode cX12_mark 87 = .ok (.aload_n 0, 1) := by decide +kernel
theorem dX12_mark_88 : decode cX12_mark 88 = .ok (.aload_n 0, 1) := by decide +kernel
theorem dX12_mark_89 : decode cX12_mark 89 = .ok (.getfield 72, 3) := by decide +kernel
theorem dX12_mark_92 : decode cX12_mark 92 = .ok (.iload 5, 2) := by decide +kernel
theorem dX12_mark_94 : decode cX12_mark 94 = .ok (.iaload, 1) := by decide +kernel
theorem dX12_mark_95 : decode cX12_mark 95 = .ok (.invokevirtual 218, 3) := by decide +kernel
theorem dX12_mark_98 : decode cX12_mark 98 = .ok (.ifCond .ne 5, 3) := by decide +kernel
theorem dX12_mark_101 : decode cX12_mark 101 = .ok (.iconst (-1), 1) := by decide +kernel
theorem dX12_mark_102 : decode cX12_mark 102 = .ok (.ireturn, 1) := by decide +kernel
theorem dX12_mark_103 : decode cX12_mark 103 = .ok (.iinc 5 1, 3) := by decide +kernel
theorem dX12_mark_106 : decode cX12_mark 106 = .ok (.goto (-26), 3) := by decide +kernel
theorem dX12_mark_109 : decode cX12_mark 109 = .ok (.aload_n 0, 1) := by decide +kernel
theorem dX12_mark_110 : decode cX12_mark 110 = .ok (.getfield 57, 3) := by decide +kernel
theorem dX12_mark_113 : decode cX12_mark 113 = .ok (.aload_n 0, 1) := by decide +kernel
theorem dX12_mark_114 : decode cX12_mark 114 = .ok (.getfield 215, 3) := by decide +kernel
theorem dX12_mark_117 : decode cX12_mark 117 = .ok (.iload_n 1, 1) := by decide +kernel
theorem dX12_mark_118 : decode cX12_mark 118 = .ok (.iastore, 1) := by decide +kernel
theorem dX12_mark_119 : decode cX12_mark 119 = .ok (.aload_n 0, 1) := by decide +kernel
theorem dX12_mark_120 : decode cX12_mark 120 = .ok (.getfield 60, 3) := by decide +kernel
theorem dX12_mark_123 : decode cX12_mark 123 = .ok (.aload_n 0, 1) := by decide +kernel
theorem dX12_mark_124 : decode cX12_mark 124 = .ok (.getfield 215, 3) := by decide +kernel
theorem dX12_mark_127 : decode cX12_mark 127 = .ok (.aload_n 0, 1) := by decide +kernel
theorem dX12_mark_128 : decode cX12_mark 128 = .ok (.getfield 205, 3) := by decide +kernel
theorem dX12_mark_131 : decode cX12_mark 131 = .ok (.iastore, 1) := by decide +kernel
theorem dX12_mark_132 : decode cX12_mark 132 = .ok (.aload_n 0, 1) := by decide +kernel
theorem dX12_mark_133 : decode cX12_mark 133 = .ok (.getfield 63, 3) := by decide +kernel
theorem dX12_mark_136 : decode cX12_mark 136 = .ok (.aload_n 0, 1) := by decide +kernel
theorem dX12_mark_137 : decode cX12_mark 137 = .ok (.getfield 215, 3) := by decide +kernel
theorem dX12_mark_140 : decode cX12_mark 140 = .ok (.iload 4, 2) := by decide +kernel
theorem dX12_mark_142 : decode cX12_mark 142 = .ok (.iastore, 1) := by decide +kernel
theorem dX12_mark_143 : decode cX12_mark 143 = .ok (.aload_n 0, 1) := by decide +kernel
theorem dX12_mark_144 : decode cX12_mark 144 = .ok (.getfield 66, 3) := by decide +kernel
theorem dX12_mark_147 : decode cX12_mark 147 = .ok (.aload_n 0, 1) := by decide +kernel
theorem dX12_mark_148 : decode cX12_mark 148 = .ok (.getfield 215, 3) := by decide +kernel
theorem dX12_mark_151 : decode cX12_mark 151 = .ok (.iload_n 3, 1) := by decide +kernel
theorem dX12_mark_152 : decode cX12_mark 152 = .ok (.iastore, 1) := by decide +kernel
theorem dX12_mark_153 : decode cX12_mark 153 = .ok (.iconst 0, 1) := by decide +kernel
theorem dX12_mark_154 : decode cX12_mark 154 = .ok (.istore 5, 2) := by decide +kernel
theorem dX12_mark_156 : decode cX12_mark 156 = .ok (.iload 5, 2) := by decide +kernel
theorem dX12_mark_158 : decode cX12_mark 158 = .ok (.iload 4, 2) := by decide +kernel
theorem dX12_mark_160 : decode cX12_mark 160 = .ok (.if_icmp .ge 31, 3) := by decide +kernel
theorem dX12_mark_163 : decode cX12_mark 163 = .ok (.aload_n 0, 1) := by decide +kernel
theorem dX12_mark_164 : decode cX12_mark 164 = .ok (.getfield 69, 3) := by decide +kernel
theorem dX12_mark_167 : decode cX12_mark 167 = .ok (.bipush 6, 2) := by decide +kernel
theorem dX12_mark_169 : decode cX12_mark 169 = .ok (.aload_n 0, 1) := by decide +kernel
theorem dX12_mark_170 : decode cX12_mark 170 = .ok (.getfield 215, 3) := by decide +kernel
theorem dX12_mark_173 : decode cX12_mark 173 = .ok (.imul, 1) := by decide +kernel
theorem dX12_mark_174 : decode cX12_mark 174 = .ok (.iload 5, 2) := by decide +kernel
theorem dX12_mark_176 : decode cX12_mark 176 = .ok (.iadd, 1) := by decide +kernel
theorem dX12_mark_177 : decode cX12_mark 177 = .ok (.aload_n 0, 1) := by decide +kernel
theorem dX12_mark_178 : decode cX12_mark 178 = .ok (.getfield 72, 3) := by decide +kernel
theorem dX12_mark_181 : decode cX12_mark 181 = .ok (.iload 5, 2) := by decide +kernel
theorem dX12_mark_183 : decode cX12_mark 183 = .ok (.iaload, 1) := by decide +kernel
theorem dX12_mark_184 : decode cX12_mark 184 = .ok (.iastore, 1) := by decide +kernel
theorem dX12_mark_185 : decode cX12_mark 185 = .ok (.iinc 5 1, 3) := by decide +kernel
theorem dX12_mark_188 : decode cX12_mark 188 = .ok (.goto (-32), 3) := by decide +kernel
theorem dX12_mark_191 : decode cX12_mark 191 = .ok (.aload_n 0, 1) := by decide +kernel
theorem dX12_mark_192 : decode cX12_mark 192 = .ok (.aload_n 0, 1) := by decide +kernel
theorem dX12_mark_193 : decode cX12_mark 193 = .ok (.getfield 215, 3) := by decide +kernel
theorem dX12_mark_196 : decode cX12_mark 196 = .ok (.iconst 1, 1) := by decide +kernel
theorem dX12_mark_197 : decode cX12_mark 197 = .ok (.iadd, 1) := by decide +kernel
theorem dX12_mark_198 : decode cX12_mark 198 = .ok (.putfield 215, 3) := by decide +kernel
theorem dX12_mark_201 : decode cX12_mark 201 = .ok (.iload 4, 2) := by decide +kernel
theorem dX12_mark_203 : decode cX12_mark 203 = .ok (.ireturn, 1) := by decide +kernel
theorem dX12_markOf_0 : decode cX12_markOf 0 = .ok (.aload_n 0, 1) := by decide +kernel
theorem dX12_markOf_1 : decode cX12_markOf 1 = .ok (.getfield 215, 3) := by decide +kernel
theorem dX12_markOf_4 : decode cX12_markOf 4 = .ok (.iconst 1, 1) := by decide +kernel
theorem dX12_markOf_5 : decode cX12_markOf 5 = .ok (.isub, 1) := by decide +kernel
theorem dX12_markOf_6 : decode cX12_markOf 6 = .ok (.istore_n 2, 1) := by decide +kernel
theorem dX12_markOf_7 : decode cX12_markOf 7 = .ok (.iload_n 2, 1) := by decide +kernel
theorem dX12_markOf_8 : decode cX12_markOf 8 = .ok (.ifCond .lt 34, 3) := by decide +kernel
theorem dX12_markOf_11 : decode cX12_markOf 11 = .ok (.aload_n 0, 1) := by decide +kernel
theorem dX12_markOf_12 : decode cX12_markOf 12 = .ok (.getfield 57, 3) := by decide +kernel
theorem dX12_markOf_15 : decode cX12_markOf 15 = .ok (.iload_n 2, 1) := by decide +kernel
theorem dX12_markOf_16 : decode cX12_markOf 16 = .ok (.iaload, 1) := by decide +kernel
theorem dX12_markOf_17 : decode cX12_markOf 17 = .ok (.iload_n 1, 1) := by decide +kernel
theorem dX12_markOf_18 : decode cX12_markOf 18 = .ok (.if_icmp .ne 18, 3) := by decide +kernel
theorem dX12_markOf_21 : decode cX12_markOf 21 = .ok (.aload_n 0, 1) := by decide +kernel
theorem dX12_markOf_22 : decode cX12_markOf 22 = .ok (.aload_n 0, 1) := by decide +kernel
theorem dX12_markOf_23 : decode cX12_markOf 23 = .ok (.getfield 60, 3) := by decide +kernel
theorem dX12_markOf_26 : decode cX12_markOf 26 = .ok (.iload_n 2, 1) := by decide +kernel
theorem dX12_markOf_27 : decode cX12_markOf 27 = .ok (.iaload, 1) := by decide +kernel
theorem dX12_markOf_28 : decode cX12_markOf 28 = .ok (.invokevirtual 194, 3) := by decide +kernel
theorem dX12_markOf_31 : decode cX12_markOf 31 = .ok (.ifCond .eq 5, 3) := by decide +kernel
theorem dX12_markOf_34 : decode cX12_markOf 34 = .ok (.iload_n 2, 1) := by decide +kernel
theorem dX12_markOf_35 : decode cX12_markOf 35 = .ok (.ireturn, 1) := by decide +kernel
theorem dX12_markOf_36 : decode cX12_markOf 36 = .ok (.iinc 2 (-1), 3) := by decide +kernel
theorem dX12_markOf_39 : decode cX12_markOf 39 = .ok (.goto (-32), 3) := by decide +kernel
theorem dX12_markOf_42 : decode cX12_markOf 42 = .ok (.iconst (-1), 1) := by decide +kernel
theorem dX12_markOf_43 : decode cX12_markOf 43 = .ok (.ireturn, 1) := by decide +kernel
theorem dX12_signsOf_0 : decode cX12_signsOf 0 = .ok (.aload_n 0, 1) := by decide +kernel
theorem dX12_signsOf_1 : decode cX12_signsOf 1 = .ok (.iload_n 1, 1) := by decide +kernel
theorem dX12_signsOf_2 : decode cX12_signsOf 2 = .ok (.invokevirtual 221, 3) := by decide +kernel
theorem dX12_signsOf_5 : decode cX12_signsOf 5 = .ok (.istore_n 2, 1) := by decide +kernel
theorem dX12_signsOf_6 : decode cX12_signsOf 6 = .ok (.iload_n 2, 1) := by decide +kernel
theorem dX12_signsOf_7 : decode cX12_signsOf 7 = .ok (.iconst (-1), 1) := by decide +kernel
theorem dX12_signsOf_8 : decode cX12_signsOf 8 = .ok (.if_icmp .ne 7, 3) := by decide +kernel
theorem dX12_signsOf_11 : decode cX12_signsOf 11 = .ok (.iconst 0, 1) := by decide +kernel
theorem dX12_signsOf_12 : decode cX12_signsOf 12 = .ok (.goto 9, 3) := by decide +kernel
theorem dX12_signsOf_15 : decode cX12_signsOf 15 = .ok (.aload_n 0, 1) := by decide +kernel
theorem dX12_signsOf_16 : decode cX12_signsOf 16 = .ok (.getfield 63, 3) := by decide +kernel
theorem dX12_signsOf_19 : decode cX12_signsOf 19 = .ok (.iload_n 2, 1) := by decide +kernel
theorem dX12_signsOf_20 : decode cX12_signsOf 20 = .ok (.iaload, 1) := by decide +kernel
theorem dX12_signsOf_21 : decode cX12_signsOf 21 = .ok (.ireturn, 1) := by decide +kernel
theorem dX12_sideOf_0 : decode cX12_sideOf 0 = .ok (.aload_n 0, 1) := by decide +kernel
theorem dX12_sideOf_1 : decode cX12_sideOf 1 = .ok (.iload_n 1, 1) := by decide +kernel
theorem dX12_sideOf_2 : decode cX12_sideOf 2 = .ok (.invokevirtual 221, 3) := by decide +kernel
theorem dX12_sideOf_5 : decode cX12_sideOf 5 = .ok (.istore_n 2, 1) := by decide +kernel
theorem dX12_sideOf_6 : decode cX12_sideOf 6 = .ok (.iload_n 2, 1) := by decide +kernel
theorem dX12_sideOf_7 : decode cX12_sideOf 7 = .ok (.iconst (-1), 1) := by decide +kernel
theorem dX12_sideOf_8 : decode cX12_sideOf 8 = .ok (.if_icmp .ne 7, 3) := by decide +kernel
theorem dX12_sideOf_11 : decode cX12_sideOf 11 = .ok (.iconst 0, 1) := by decide +kernel
theorem dX12_sideOf_12 : decode cX12_sideOf 12 = .ok (.goto 9, 3) := by decide +kernel
theorem dX12_sideOf_15 : decode cX12_sideOf 15 = .ok (.aload_n 0, 1) := by decide +kernel
theorem dX12_sideOf_16 : decode cX12_sideOf 16 = .ok (.getfield 66, 3) := by decide +kernel
theorem dX12_sideOf_19 : decode cX12_sideOf 19 = .ok (.iload_n 2, 1) := by decide +kernel
theorem dX12_sideOf_20 : decode cX12_sideOf 20 = .ok (.iaload, 1) := by decide +kernel
theorem dX12_sideOf_21 : decode cX12_sideOf 21 = .ok (.ireturn, 1) := by decide +kernel
theorem dX12_isLetter_0 : decode cX12_isLetter 0 = .ok (.aload_n 0, 1) := by decide +kernel
theorem dX12_isLetter_1 : decode cX12_isLetter 1 = .ok (.iload_n 1, 1) := by decide +kernel
theorem dX12_isLetter_2 : decode cX12_isLetter 2 = .ok (.bipush 97, 2) := by decide +kernel
theorem dX12_isLetter_4 : decode cX12_isLetter 4 = .ok (.bipush 122, 2) := by decide +kernel
theorem dX12_isLetter_6 : decode cX12_isLetter 6 = .ok (.invokevirtual 201, 3) := by decide +kernel
theorem dX12_isLetter_9 : decode cX12_isLetter 9 = .ok (.ifCond .ne 15, 3) := by decide +kernel
theorem dX12_isLetter_12 : decode cX12_isLetter 12 = .ok (.aload_n 0, 1) := by decide +kernel
theorem dX12_isLetter_13 : decode cX12_isLetter 13 = .ok (.iload_n 1, 1) := by decide +kernel
theorem dX12_isLetter_14 : decode cX12_isLetter 14 = .ok (.bipush 65, 2) := by decide +kernel
theorem dX12_isLetter_16 : decode cX12_isLetter 16 = .ok (.bipush 90, 2) := by decide +kernel
theorem dX12_isLetter_18 : decode cX12_isLetter 18 = .ok (.invokevirtual 201, 3) := by decide +kernel
theorem dX12_isLetter_21 : decode cX12_isLetter 21 = .ok (.ifCond .eq 7, 3) := by decide +kernel
theorem dX12_isLetter_24 : decode cX12_isLetter 24 = .ok (.iconst 1, 1) := by decide +kernel
theorem dX12_isLetter_25 : decode cX12_isLetter 25 = .ok (.goto 4, 3) := by decide +kernel
theorem dX12_isLetter_28 : decode cX12_isLetter 28 = .ok (.iconst 0, 1) := by decide +kernel
theorem dX12_isLetter_29 : decode cX12_isLetter 29 = .ok (.ireturn, 1) := by decide +kernel
theorem dX12_isDigit_0 : decode cX12_isDigit 0 = .ok (.aload_n 0, 1) := by decide +kernel
theorem dX12_isDigit_1 : decode cX12_isDigit 1 = .ok (.iload_n 1, 1) := by decide +kernel
theorem dX12_isDigit_2 : decode cX12_isDigit 2 = .ok (.bipush 48, 2) := by decide +kernel
theorem dX12_isDigit_4 : decode cX12_isDigit 4 = .ok (.bipush 57, 2) := by decide +kernel
theorem dX12_isDigit_6 : decode cX12_isDigit 6 = .ok (.invokevirtual 201, 3) := by decide +kernel
theorem dX12_isDigit_9 : decode cX12_isDigit 9 = .ok (.ireturn, 1) := by decide +kernel
theorem dX12_raw_0 : decode cX12_raw 0 = .ok (.iload_n 1, 1) := by decide +kernel
theorem dX12_raw_1 : decode cX12_raw 1 = .ok (.aload_n 0, 1) := by decide +kernel
theorem dX12_raw_2 : decode cX12_raw 2 = .ok (.getfield 208, 3) := by decide +kernel
theorem dX12_raw_5 : decode cX12_raw 5 = .ok (.if_icmp .ge 12, 3) := by decide +kernel
theorem dX12_raw_8 : decode cX12_raw 8 = .ok (.aload_n 0, 1) := by decide +kernel
theorem dX12_raw_9 : decode cX12_raw 9 = .ok (.getfield 72, 3) := by decide +kernel
theorem dX12_raw_12 : decode cX12_raw 12 = .ok (.iload_n 1, 1) := by decide +kernel
theorem dX12_raw_13 : decode cX12_raw 13 = .ok (.iaload, 1) := by decide +kernel
theorem dX12_raw_14 : decode cX12_raw 14 = .ok (.goto 4, 3) := by decide +kernel
theorem dX12_raw_17 : decode cX12_raw 17 = .ok (.iconst (-1), 1) := by decide +kernel
theorem dX12_raw_18 : decode cX12_raw 18 = .ok (.ireturn, 1) := by decide +kernel
theorem dX12_wordAt_0 : decode cX12_wordAt 0 = .ok (.iconst (-1), 1) := by decide +kernel
theorem dX12_wordAt_1 : decode cX12_wordAt 1 = .ok (.istore_n 3, 1) := by decide +kernel
theorem dX12_wordAt_2 : decode cX12_wordAt 2 = .ok (.iconst 0, 1) := by decide +kernel
theorem dX12_wordAt_3 : decode cX12_wordAt 3 = .ok (.istore 4, 2) := by decide +kernel
theorem dX12_wordAt_5 : decode cX12_wordAt 5 = .ok (.iload 4, 2) := by decide +kernel
theorem dX12_wordAt_7 : decode cX12_wordAt 7 = .ok (.bipush 95, 2) := by decide +kernel
theorem dX12_wordAt_9 : decode cX12_wordAt 9 = .ok (.if_icmp .ge 108, 3) := by decide +kernel
theorem dX12_wordAt_12 : decode cX12_wordAt 12 = .ok (.iconst 0, 1) := by decide +kernel
theorem dX12_wordAt_13 : decode cX12_wordAt 13 = .ok (.istore 5, 2) := by decide +kernel
theorem dX12_wordAt_15 : decode cX12_wordAt 15 = .ok (.iload_n 3, 1) := by decide +kernel
theorem dX12_wordAt_16 : decode cX12_wordAt 16 = .ok (.iconst 1, 1) := by decide +kernel
theorem dX12_wordAt_17 : decode cX12_wordAt 17 = .ok (.iadd, 1) := by decide +kernel
theorem dX12_wordAt_18 : decode cX12_wordAt 18 = .ok (.istore_n 3, 1) := by decide +kernel
theorem dX12_wordAt_19 : decode cX12_wordAt 19 = .ok (.iload_n 1, 1) := by decide +kernel
theorem dX12_wordAt_20 : decode cX12_wordAt 20 = .ok (.iload 5, 2) := by decide +kernel
theorem dX12_wordAt_22 : decode cX12_wordAt 22 = .ok (.iadd, 1) := by decide +kernel
theorem dX12_wordAt_23 : decode cX12_wordAt 23 = .ok (.iload_n 2, 1) := by decide +kernel
theorem dX12_wordAt_24 : decode cX12_wordAt 24 = .ok (.if_icmp .ge 36, 3) := by decide +kernel
theorem dX12_wordAt_27 : decode cX12_wordAt 27 = .ok (.aload_n 0, 1) := by decide +kernel
theorem dX12_wordAt_28 : decode cX12_wordAt 28 = .ok (.getfield 78, 3) := by decide +kernel
theorem dX12_wordAt_31 : decode cX12_wordAt 31 = .ok (.iload 4, 2) := by decide +kernel
theorem dX12_wordAt_33 : decode cX12_wordAt 33 = .ok (.iconst 1, 1) := by decide +kernel
theorem dX12_wordAt_34 : decode cX12_wordAt 34 = .ok (.iadd, 1) := by decide +kernel
theorem dX12_wordAt_35 : decode cX12_wordAt 35 = .ok (.iload 5, 2) := by decide +kernel
theorem dX12_wordAt_37 : decode cX12_wordAt 37 = .ok (.iadd, 1) := by decide +kernel
theorem dX12_wordAt_38 : decode cX12_wordAt 38 = .ok (.iaload, 1) := by decide +kernel
theorem dX12_wordAt_39 : decode cX12_wordAt 39 = .ok (.aload_n 0, 1) := by decide +kernel
theorem dX12_wordAt_40 : decode cX12_wordAt 40 = .ok (.getfield 72, 3) := by decide +kernel
theorem dX12_wordAt_43 : decode cX12_wordAt 43 = .ok (.iload_n 1, 1) := by decide +kernel
theorem dX12_wordAt_44 : decode cX12_wordAt 44 = .ok (.iload 5, 2) := by decide +kernel
theorem dX12_wordAt_46 : decode cX12_wordAt 46 = .ok (.iadd, 1) := by decide +kernel
theorem dX12_wordAt_47 : decode cX12_wordAt 47 = .ok (.iaload, 1) := by decide +kernel
theorem dX12_wordAt_48 : decode cX12_wordAt 48 = .ok (.if_icmp .ne 12, 3) := by decide +kernel
theorem dX12_wordAt_51 : decode cX12_wordAt 51 = .ok (.iload 5, 2) := by decide +kernel
theorem dX12_wordAt_53 : decode cX12_wordAt 53 = .ok (.iconst 1, 1) := by decide +kernel
theorem dX12_wordAt_54 : decode cX12_wordAt 54 = .ok (.iadd, 1) := by decide +kernel
theorem dX12_wordAt_55 : decode cX12_wordAt 55 = .ok (.istore 5, 2) := by decide +kernel
theorem dX12_wordAt_57 : decode cX12_wordAt 57 = .ok (.goto (-38), 3) := by decide +kernel
theorem dX12_wordAt_60 : decode cX12_wordAt 60 = .ok (.iload_n 1, 1) := by decide +kernel
theorem dX12_wordAt_61 : decode cX12_wordAt 61 = .ok (.iload 5, 2) := by decide +kernel
theorem dX12_wordAt_63 : decode cX12_wordAt 63 = .ok (.iadd, 1) := by decide +kernel
theorem dX12_wordAt_64 : decode cX12_wordAt 64 = .ok (.iload_n 2, 1) := by decide +kernel
theorem dX12_wordAt_65 : decode cX12_wordAt 65 = .ok (.if_icmp .ne 22, 3) := by decide +kernel
theorem dX12_wordAt_68 : decode cX12_wordAt 68 = .ok (.aload_n 0, 1) := by decide +kernel
theorem dX12_wordAt_69 : decode cX12_wordAt 69 = .ok (.getfield 78, 3) := by decide +kernel
theorem dX12_wordAt_72 : decode cX12_wordAt 72 = .ok (.iload 4, 2) := by decide +kernel
theorem dX12_wordAt_74 : decode cX12_wordAt 74 = .ok (.iconst 1, 1) := by decide +kernel
theorem dX12_wordAt_75 : decode cX12_wordAt 75 = .ok (.iadd, 1) := by decide +kernel
theorem dX12_wordAt_76 : decode cX12_wordAt 76 = .ok (.iload 5, 2) := by decide +kernel
theorem dX12_wordAt_78 : decode cX12_wordAt 78 = .ok (.iadd, 1) := by decide +kernel
theorem dX12_wordAt_79 : decode cX12_wordAt 79 = .ok (.iaload, 1) := by decide +kernel
theorem dX12_wordAt_80 : decode cX12_wordAt 80 = .ok (.bipush 32, 2) := by decide +kernel
theorem dX12_wordAt_82 : decode cX12_wordAt 82 = .ok (.if_icmp .ne 5, 3) := by decide +kernel
theorem dX12_wordAt_85 : decode cX12_wordAt 85 = .ok (.iload_n 3, 1) := by decide +kernel
theorem dX12_wordAt_86 : decode cX12_wordAt 86 = .ok (.ireturn, 1) := by decide +kernel
theorem dX12_wordAt_87 : decode cX12_wordAt 87 = .ok (.iload 4, 2) := by decide +kernel
theorem dX12_wordAt_89 : decode cX12_wordAt 89 = .ok (.iconst 1, 1) := by decide +kernel
theorem dX12_wordAt_90 : decode cX12_wordAt 90 = .ok (.iadd, 1) := by decide +kernel
theorem dX12_wordAt_91 : decode cX12_wordAt 91 = .ok (.istore 4, 2) := by decide +kernel
theorem dX12_wordAt_93 : decode cX12_wordAt 93 = .ok (.aload_n 0, 1) := by decide +kernel
theorem dX12_wordAt_94 : decode cX12_wordAt 94 = .ok (.getfield 78, 3) := by decide +kernel
theorem dX12_wordAt_97 : decode cX12_wordAt 97 = .ok (.iload 4, 2) := by decide +kernel
theorem dX12_wordAt_99 : decode cX12_wordAt 99 = .ok (.iaload, 1) := by decide +kernel
theorem dX12_wordAt_100 : decode cX12_wordAt 100 = .ok (.bipush 32, 2) := by decide +kernel
theorem dX12_wordAt_102 : decode cX12_wordAt 102 = .ok (.if_icmp .eq 12, 3) := by decide +kernel
theorem dX12_wordAt_105 : decode cX12_wordAt 105 = .ok (.iload 4, 2) := by decide +kernel
theorem dX12_wordAt_107 : decode cX12_wordAt 107 = .ok (.iconst 1, 1) := by decide +kernel
theorem dX12_wordAt_108 : decode cX12_wordAt 108 = .ok (.iadd, 1) := by decide +kernel
theorem dX12_wordAt_109 : decode cX12_wordAt 109 = .ok (.istore 4, 2) := by decide +kernel
theorem dX12_wordAt_111 : decode cX12_wordAt 111 = .ok (.goto (-18), 3) := by decide +kernel
theorem dX12_wordAt_114 : decode cX12_wordAt 114 = .ok (.goto (-109), 3) := by decide +kernel
theorem dX12_wordAt_117 : decode cX12_wordAt 117 = .ok (.iconst (-1), 1) := by decide +kernel
theorem dX12_wordAt_118 : decode cX12_wordAt 118 = .ok (.ireturn, 1) := by decide +kernel
theorem dX12_next_0 : decode cX12_next 0 = .ok (.aload_n 0, 1) := by decide +kernel
theorem dX12_next_1 : decode cX12_next 1 = .ok (.aload_n 0, 1) := by decide +kernel
theorem dX12_next_2 : decode cX12_next 2 = .ok (.getfield 225, 3) := by decide +kernel
theorem dX12_next_5 : decode cX12_next 5 = .ok (.invokevirtual 228, 3) := by decide +kernel
theorem dX12_next_8 : decode cX12_next 8 = .ok (.bipush 32, 2) := by decide +kernel
theorem dX12_next_10 : decode cX12_next 10 = .ok (.if_icmp .eq 16, 3) := by decide +kernel
theorem dX12_next_13 : decode cX12_next 13 = .ok (.aload_n 0, 1) := by decide +kernel
theorem dX12_next_14 : decode cX12_next 14 = .ok (.aload_n 0, 1) := by decide +kernel
theorem dX12_next_15 : decode cX12_next 15 = .ok (.getfield 225, 3) := by decide +kernel
theorem dX12_next_18 : decode cX12_next 18 = .ok (.invokevirtual 228, 3) := by decide +kernel
theorem dX12_next_21 : decode cX12_next 21 = .ok (.bipush 10, 2) := by decide +kernel
theorem dX12_next_23 : decode cX12_next 23 = .ok (.if_icmp .ne 16, 3) := by decide +kernel
theorem dX12_next_26 : decode cX12_next 26 = .ok (.aload_n 0, 1) := by decide +kernel
theorem dX12_next_27 : decode cX12_next 27 = .ok (.aload_n 0, 1) := by decide +kernel
theorem dX12_next_28 : decode cX12_next 28 = .ok (.getfield 225, 3) := by decide +kernel
theorem dX12_next_31 : decode cX12_next 31 = .ok (.iconst 1, 1) := by decide +kernel
theorem dX12_next_32 : decode cX12_next 32 = .ok (.iadd, 1) := by decide +kernel
theorem dX12_next_33 : decode cX12_next 33 = .ok (.putfield 225, 3) := by decide +kernel
theorem dX12_next_36 : decode cX12_next 36 = .ok (.goto (-36), 3) := by decide +kernel
theorem dX12_next_39 : decode cX12_next 39 = .ok (.aload_n 0, 1) := by decide +kernel
theorem dX12_next_40 : decode cX12_next 40 = .ok (.aload_n 0, 1) := by decide +kernel
theorem dX12_next_41 : decode cX12_next 41 = .ok (.getfield 225, 3) := by decide +kernel
theorem dX12_next_44 : decode cX12_next 44 = .ok (.putfield 231, 3) := by decide +kernel
theorem dX12_next_47 : decode cX12_next 47 = .ok (.aload_n 0, 1) := by decide +kernel
theorem dX12_next_48 : decode cX12_next 48 = .ok (.iconst 1, 1) := by decide +kernel
theorem dX12_next_49 : decode cX12_next 49 = .ok (.putfield 234, 3) := by decide +kernel
theorem dX12_next_52 : decode cX12_next 52 = .ok (.aload_n 0, 1) := by decide +kernel
theorem dX12_next_53 : decode cX12_next 53 = .ok (.aload_n 0, 1) := by decide +kernel
theorem dX12_next_54 : decode cX12_next 54 = .ok (.getfield 225, 3) := by decide +kernel
theorem dX12_next_57 : decode cX12_next 57 = .ok (.invokevirtual 228, 3) := by decide +kernel
theorem dX12_next_60 : decode cX12_next 60 = .ok (.istore_n 1, 1) := by decide +kernel
theorem dX12_next_61 : decode cX12_next 61 = .ok (.iload_n 1, 1) := by decide +kernel
theorem dX12_next_62 : decode cX12_next 62 = .ok (.iconst (-1), 1) := by decide +kernel
theorem dX12_next_63 : decode cX12_next 63 = .ok (.if_icmp .ne 9, 3) := by decide +kernel
theorem dX12_next_66 : decode cX12_next 66 = .ok (.aload_n 0, 1) := by decide +kernel
theorem dX12_next_67 : decode cX12_next 67 = .ok (.iconst 0, 1) := by decide +kernel
theorem dX12_next_68 : decode cX12_next 68 = .ok (.putfield 234, 3) := by decide +kernel
theorem dX12_next_71 : decode cX12_next 71 = .ok (.return_, 1) := by decide +kernel
theorem dX12_next_72 : decode cX12_next 72 = .ok (.aload_n 0, 1) := by decide +kernel
theorem dX12_next_73 : decode cX12_next 73 = .ok (.aload_n 0, 1) := by decide +kernel
theorem dX12_next_74 : decode cX12_next 74 = .ok (.getfield 225, 3) := by decide +kernel
theorem dX12_next_77 : decode cX12_next 77 = .ok (.iconst 1, 1) := by decide +kernel
theorem dX12_next_78 : decode cX12_next 78 = .ok (.iadd, 1) := by decide +kernel
theorem dX12_next_79 : decode cX12_next 79 = .ok (.putfield 225, 3) := by decide +kernel
theorem dX12_next_82 : decode cX12_next 82 = .ok (.aload_n 0, 1) := by decide +kernel
theorem dX12_next_83 : decode cX12_next 83 = .ok (.iload_n 1, 1) := by decide +kernel
theorem dX12_next_84 : decode cX12_next 84 = .ok (.invokevirtual 237, 3) := by decide +kernel
theorem dX12_next_87 : decode cX12_next 87 = .ok (.ifCond .eq 63, 3) := by decide +kernel
theorem dX12_next_90 : decode cX12_next 90 = .ok (.aload_n 0, 1) := by decide +kernel
theorem dX12_next_91 : decode cX12_next 91 = .ok (.aload_n 0, 1) := by decide +kernel
theorem dX12_next_92 : decode cX12_next 92 = .ok (.aload_n 0, 1) := by decide +kernel
theorem dX12_next_93 : decode cX12_next 93 = .ok (.getfield 225, 3) := by decide +kernel
theorem dX12_next_96 : decode cX12_next 96 = .ok (.invokevirtual 228, 3) := by decide +kernel
theorem dX12_next_99 : decode cX12_next 99 = .ok (.invokevirtual 237, 3) := by decide +kernel
theorem dX12_next_102 : decode cX12_next 102 = .ok (.ifCond .eq 16, 3) := by decide +kernel
theorem dX12_next_105 : decode cX12_next 105 = .ok (.aload_n 0, 1) := by decide +kernel
theorem dX12_next_106 : decode cX12_next 106 = .ok (.aload_n 0, 1) := by decide +kernel
theorem dX12_next_107 : decode cX12_next 107 = .ok (.getfield 225, 3) := by decide +kernel
theorem dX12_next_110 : decode cX12_next 110 = .ok (.iconst 1, 1) := by decide +kernel
theorem dX12_next_111 : decode cX12_next 111 = .ok (.iadd, 1) := by decide +kernel
theorem dX12_next_112 : decode cX12_next 112 = .ok (.putfield 225, 3) := by decide +kernel
theorem dX12_next_115 : decode cX12_next 115 = .ok (.goto (-25), 3) := by decide +kernel
theorem dX12_next_118 : decode cX12_next 118 = .ok (.aload_n 0, 1) := by decide +kernel
theorem dX12_next_119 : decode cX12_next 119 = .ok (.aload_n 0, 1) := by decide +kernel
theorem dX12_next_120 : decode cX12_next 120 = .ok (.aload_n 0, 1) := by decide +kernel
theorem dX12_next_121 : decode cX12_next 121 = .ok (.getfield 231, 3) := by decide +kernel
theorem dX12_next_124 : decode cX12_next 124 = .ok (.aload_n 0, 1) := by decide +kernel
theorem dX12_next_125 : decode cX12_next 125 = .ok (.getfield 225, 3) := by decide +kernel
theorem dX12_next_128 : decode cX12_next 128 = .ok (.invokevirtual 240, 3) := by decide +kernel
theorem dX12_next_131 : decode cX12_next 131 = .ok (.putfield 244, 3) := by decide +kernel
theorem dX12_next_134 : decode cX12_next 134 = .ok (.aload_n 0, 1) := by decide +kernel
theorem dX12_next_135 : decode cX12_next 135 = .ok (.getfield 244, 3) := by decide +kernel
theorem dX12_next_138 : decode cX12_next 138 = .ok (.iconst (-1), 1) := by decide +kernel
theorem dX12_next_139 : decode cX12_next 139 = .ok (.if_icmp .eq 126, 3) := by decide +kernel
theorem dX12_next_142 : decode cX12_next 142 = .ok (.aload_n 0, 1) := by decide +kernel
theorem dX12_next_143 : decode cX12_next 143 = .ok (.iconst 2, 1) := by decide +kernel
theorem dX12_next_144 : decode cX12_next 144 = .ok (.putfield 234, 3) := by decide +kernel
theorem dX12_next_147 : decode cX12_next 147 = .ok (.goto 118, 3) := by decide +kernel
theorem dX12_next_150 : decode cX12_next 150 = .ok (.aload_n 0, 1) := by decide +kernel
theorem dX12_next_151 : decode cX12_next 151 = .ok (.iload_n 1, 1) := by decide +kernel
theorem dX12_next_152 : decode cX12_next 152 = .ok (.invokevirtual 247, 3) := by decide +kernel
theorem dX12_next_155 : decode cX12_next 155 = .ok (.ifCond .eq 99, 3) := by decide +kernel
theorem dX12_next_158 : decode cX12_next 158 = .ok (.aload_n 0, 1) := by decide +kernel
theorem dX12_next_159 : decode cX12_next 159 = .ok (.iload_n 1, 1) := by decide +kernel
theorem dX12_next_160 : decode cX12_next 160 = .ok (.bipush 48, 2) := by decide +kernel
theorem dX12_next_162 : decode cX12_next 162 = .ok (.isub, 1) := by decide +kernel
theorem dX12_next_163 : decode cX12_next 163 = .ok (.putfield 244, 3) := by decide +kernel
theorem dX12_next_166 : decode cX12_next 166 = .ok (.aload_n 0, 1) := by decide +kernel
theorem dX12_next_167 : decode cX12_next 167 = .ok (.aload_n 0, 1) := by decide +kernel
theorem dX12_next_168 : decode cX12_next 168 = .ok (.aload_n 0, 1) := by decide +kernel
theorem dX12_next_169 : decode cX12_next 169 = .ok (.getfield 225, 3) := by decide +kernel
theorem dX12_next_172 : decode cX12_next 172 = .ok (.invokevirtual 228, 3) := by decide +kernel
theorem dX12_next_175 : decode cX12_next 175 = .ok (.invokevirtual 247, 3) := by decide +kernel
theorem dX12_next_178 : decode cX12_next 178 = .ok (.ifCond .eq 55, 3) := by decide +kernel
theorem dX12_next_181 : decode cX12_next 181 = .ok (.aload_n 0, 1) := by decide +kernel
theorem dX12_next_182 : decode cX12_next 182 = .ok (.aload_n 0, 1) := by decide +kernel
theorem dX12_next_183 : decode cX12_next 183 = .ok (.getfield 244, 3) := by decide +kernel
theorem dX12_next_186 : decode cX12_next 186 = .ok (.bipush 100, 2) := by decide +kernel
theorem dX12_next_188 : decode cX12_next 188 = .ok (.if_icmp .ge 25, 3) := by decide +kernel
theorem dX12_next_191 : decode cX12_next 191 = .ok (.bipush 10, 2) := by decide +kernel
theorem dX12_next_193 : decode cX12_next 193 = .ok (.aload_n 0, 1) := by decide +kernel
theorem dX12_next_194 : decode cX12_next 194 = .ok (.getfield 244, 3) := by decide +kernel
theorem dX12_next_197 : decode cX12_next 197 = .ok (.imul, 1) := by decide +kernel
theorem dX12_next_198 : decode cX12_next 198 = .ok (.aload_n 0, 1) := by decide +kernel
theorem dX12_next_199 : decode cX12_next 199 = .ok (.aload_n 0, 1) := by decide +kernel
theorem dX12_next_200 : decode cX12_next 200 = .ok (.getfield 225, 3) := by decide +kernel
theorem dX12_next_203 : decode cX12_next 203 = .ok (.invokevirtual 228, 3) := by decide +kernel
theorem dX12_next_206 : decode cX12_next 206 = .ok (.iadd, 1) := by decide +kernel
theorem dX12_next_207 : decode cX12_next 207 = .ok (.bipush 48, 2) := by decide +kernel
theorem dX12_next_209 : decode cX12_next 209 = .ok (.isub, 1) := by decide +kernel
theorem dX12_next_210 : decode cX12_next 210 = .ok (.goto 7, 3) := by decide +kernel
theorem dX12_next_213 : decode cX12_next 213 = .ok (.aload_n 0, 1) := by decide +kernel
theorem dX12_next_214 : decode cX12_next 214 = .ok (.getfield 244, 3) := by decide +kernel
theorem dX12_next_217 : decode cX12_next 217 = .ok (.putfield 244, 3) := by decide +kernel
theorem dX12_next_220 : decode cX12_next 220 = .ok (.aload_n 0, 1) := by decide +kernel
theorem dX12_next_221 : decode cX12_next 221 = .ok (.aload_n 0, 1) := by decide +kernel
theorem dX12_next_222 : decode cX12_next 222 = .ok (.getfield 225, 3) := by decide +kernel
theorem dX12_next_225 : decode cX12_next 225 = .ok (.iconst 1, 1) := by decide +kernel
theorem dX12_next_226 : decode cX12_next 226 = .ok (.iadd, 1) := by decide +kernel
theorem dX12_next_227 : decode cX12_next 227 = .ok (.putfield 225, 3) := by decide +kernel
theorem dX12_next_230 : decode cX12_next 230 = .ok (.goto (-64), 3) := by decide +kernel
theorem dX12_next_233 : decode cX12_next 233 = .ok (.aload_n 0, 1) := by decide +kernel
theorem dX12_next_234 : decode cX12_next 234 = .ok (.getfield 225, 3) := by decide +kernel
theorem dX12_next_237 : decode cX12_next 237 = .ok (.aload_n 0, 1) := by decide +kernel
theorem dX12_next_238 : decode cX12_next 238 = .ok (.getfield 231, 3) := by decide +kernel
theorem dX12_next_241 : decode cX12_next 241 = .ok (.isub, 1) := by decide +kernel
theorem dX12_next_242 : decode cX12_next 242 = .ok (.iconst 3, 1) := by decide +kernel
theorem dX12_next_243 : decode cX12_next 243 = .ok (.if_icmp .ge 22, 3) := by decide +kernel
theorem dX12_next_246 : decode cX12_next 246 = .ok (.aload_n 0, 1) := by decide +kernel
theorem dX12_next_247 : decode cX12_next 247 = .ok (.iconst 3, 1) := by decide +kernel
theorem dX12_next_248 : decode cX12_next 248 = .ok (.putfield 234, 3) := by decide +kernel
theorem dX12_next_251 : decode cX12_next 251 = .ok (.goto 14, 3) := by decide +kernel
theorem dX12_next_254 : decode cX12_next 254 = .ok (.iload_n 1, 1) := by decide +kernel
theorem dX12_next_255 : decode cX12_next 255 = .ok (.bipush 59, 2) := by decide +kernel
theorem dX12_next_257 : decode cX12_next 257 = .ok (.if_icmp .ne 8, 3) := by decide +kernel
theorem dX12_next_260 : decode cX12_next 260 = .ok (.aload_n 0, 1) := by decide +kernel
theorem dX12_next_261 : decode cX12_next 261 = .ok (.iconst 4, 1) := by decide +kernel
theorem dX12_next_262 : decode cX12_next 262 = .ok (.putfield 234, 3) := by decide +kernel
theorem dX12_next_265 : decode cX12_next 265 = .ok (.return_, 1) := by decide +kernel
theorem dX12_fails_0 : decode cX12_fails 0 = .ok (.aload_n 0, 1) := by decide +kernel
theorem dX12_fails_1 : decode cX12_fails 1 = .ok (.iload_n 1, 1) := by decide +kernel
theorem dX12_fails_2 : decode cX12_fails 2 = .ok (.putfield 250, 3) := by decide +kernel
theorem dX12_fails_5 : decode cX12_fails 5 = .ok (.aload_n 0, 1) := by decide +kernel
theorem dX12_fails_6 : decode cX12_fails 6 = .ok (.aload_n 0, 1) := by decide +kernel
theorem dX12_fails_7 : decode cX12_fails 7 = .ok (.getfield 231, 3) := by decide +kernel
theorem dX12_fails_10 : decode cX12_fails 10 = .ok (.putfield 253, 3) := by decide +kernel
theorem dX12_fails_13 : decode cX12_fails 13 = .ok (.iconst (-1), 1) := by decide +kernel
theorem dX12_fails_14 : decode cX12_fails 14 = .ok (.ireturn, 1) := by decide +kernel
theorem dX12_isWord_0 : decode cX12_isWord 0 = .ok (.aload_n 0, 1) := by decide +kernel
theorem dX12_isWord_1 : decode cX12_isWord 1 = .ok (.getfield 234, 3) := by decide +kernel
theorem dX12_isWord_4 : decode cX12_isWord 4 = .ok (.iconst 2, 1) := by decide +kernel
theorem dX12_isWord_5 : decode cX12_isWord 5 = .ok (.if_icmp .ne 20, 3) := by decide +kernel
theorem dX12_isWord_8 : decode cX12_isWord 8 = .ok (.aload_n 0, 1) := by decide +kernel
theorem dX12_isWord_9 : decode cX12_isWord 9 = .ok (.aload_n 0, 1) := by decide +kernel
theorem dX12_isWord_10 : decode cX12_isWord 10 = .ok (.getfield 244, 3) := by decide +kernel
theorem dX12_isWord_13 : decode cX12_isWord 13 = .ok (.iload_n 1, 1) := by decide +kernel
theorem dX12_isWord_14 : decode cX12_isWord 14 = .ok (.iload_n 2, 1) := by decide +kernel
theorem dX12_isWord_15 : decode cX12_isWord 15 = .ok (.invokevirtual 201, 3) := by decide +kernel
theorem dX12_isWord_18 : decode cX12_isWord 18 = .ok (.ifCond .eq 7, 3) := by decide +kernel
theorem dX12_isWord_21 : decode cX12_isWord 21 = .ok (.iconst 1, 1) := by decide +kernel
theorem dX12_isWord_22 : decode cX12_isWord 22 = .ok (.goto 4, 3) := by decide +kernel
theorem dX12_isWord_25 : decode cX12_isWord 25 = .ok (.iconst 0, 1) := by decide +kernel
theorem dX12_isWord_26 : decode cX12_isWord 26 = .ok (.ireturn, 1) := by decide +kernel
theorem dX12_number_0 : decode cX12_number 0 = .ok (.aload_n 0, 1) := by decide +kernel
theorem dX12_number_1 : decode cX12_number 1 = .ok (.getfield 234, 3) := by decide +kernel
theorem dX12_number_4 : decode cX12_number 4 = .ok (.iconst 3, 1) := by decide +kernel
theorem dX12_number_5 : decode cX12_number 5 = .ok (.if_icmp .eq 9, 3) := by decide +kernel
theorem dX12_number_8 : decode cX12_number 8 = .ok (.aload_n 0, 1) := by decide +kernel
theorem dX12_number_9 : decode cX12_number 9 = .ok (.iconst 1, 1) := by decide +kernel
theorem dX12_number_10 : decode cX12_number 10 = .ok (.invokevirtual 256, 3) := by decide +kernel
theorem dX12_number_13 : decode cX12_number 13 = .ok (.ireturn, 1) := by decide +kernel
theorem dX12_number_14 : decode cX12_number 14 = .ok (.aload_n 0, 1) := by decide +kernel
theorem dX12_number_15 : decode cX12_number 15 = .ok (.aload_n 0, 1) := by decide +kernel
theorem dX12_number_16 : decode cX12_number 16 = .ok (.getfield 244, 3) := by decide +kernel
theorem dX12_number_19 : decode cX12_number 19 = .ok (.iload_n 1, 1) := by decide +kernel
theorem dX12_number_20 : decode cX12_number 20 = .ok (.iload_n 2, 1) := by decide +kernel
theorem dX12_number_21 : decode cX12_number 21 = .ok (.invokevirtual 201, 3) := by decide +kernel
theorem dX12_number_24 : decode cX12_number 24 = .ok (.ifCond .ne 9, 3) := by decide +kernel
theorem dX12_number_27 : decode cX12_number 27 = .ok (.aload_n 0, 1) := by decide +kernel
theorem dX12_number_28 : decode cX12_number 28 = .ok (.iconst 2, 1) := by decide +kernel
theorem dX12_number_29 : decode cX12_number 29 = .ok (.invokevirtual 256, 3) := by decide +kernel
theorem dX12_number_32 : decode cX12_number 32 = .ok (.ireturn, 1) := by decide +kernel
theorem dX12_number_33 : decode cX12_number 33 = .ok (.aload_n 0, 1) := by decide +kernel
theorem dX12_number_34 : decode cX12_number 34 = .ok (.getfield 75, 3) := by decide +kernel
theorem dX12_number_37 : decode cX12_number 37 = .ok (.iload_n 3, 1) := by decide +kernel
theorem dX12_number_38 : decode cX12_number 38 = .ok (.aload_n 0, 1) := by decide +kernel
theorem dX12_number_39 : decode cX12_number 39 = .ok (.getfield 244, 3) := by decide +kernel
theorem dX12_number_42 : decode cX12_number 42 = .ok (.iastore, 1) := by decide +kernel
theorem dX12_number_43 : decode cX12_number 43 = .ok (.aload_n 0, 1) := by decide +kernel
theorem dX12_number_44 : decode cX12_number 44 = .ok (.invokevirtual 259, 3) := by decide +kernel
theorem dX12_number_47 : decode cX12_number 47 = .ok (.iconst 0, 1) := by decide +kernel
theorem dX12_number_48 : decode cX12_number 48 = .ok (.ireturn, 1) := by decide +kernel
theorem dX12_lineComes_0 : decode cX12_lineComes 0 = .ok (.aload_n 0, 1) := by decide +kernel
theorem dX12_lineComes_1 : decode cX12_lineComes 1 = .ok (.getfield 244, 3) := by decide +kernel
theorem dX12_lineComes_4 : decode cX12_lineComes 4 = .ok (.istore_n 1, 1) := by decide +kernel
theorem dX12_lineComes_5 : decode cX12_lineComes 5 = .ok (.aload_n 0, 1) := by decide +kernel
theorem dX12_lineComes_6 : decode cX12_lineComes 6 = .ok (.invokevirtual 259, 3) := by decide +kernel
theorem dX12_lineComes_9 : decode cX12_lineComes 9 = .ok (.iload_n 1, 1) := by decide +kernel
theorem dX12_lineComes_10 : decode cX12_lineComes 10 = .ok (.iconst 4, 1) := by decide +kernel
theorem dX12_lineComes_11 : decode cX12_lineComes 11 = .ok (.if_icmp .ne 42, 3) := by decide +kernel
theorem dX12_lineComes_14 : decode cX12_lineComes 14 = .ok (.aload_n 0, 1) := by decide +kernel
theorem dX12_lineComes_15 : decode cX12_lineComes 15 = .ok (.bipush 12, 2) := by decide +kernel
theorem dX12_lineComes_17 : decode cX12_lineComes 17 = .ok (.bipush 14, 2) := by decide +kernel
theorem dX12_lineComes_19 : decode cX12_lineComes 19 = .ok (.invokevirtual 262, 3) := by decide +kernel
theorem dX12_lineComes_22 : decode cX12_lineComes 22 = .ok (.ifCond .ne 9, 3) := by decide +kernel
theorem dX12_lineComes_25 : decode cX12_lineComes 25 = .ok (.aload_n 0, 1) := by decide +kernel
theorem dX12_lineComes_26 : decode cX12_lineComes 26 = .ok (.iconst 1, 1) := by decide +kernel
theorem dX12_lineComes_27 : decode cX12_lineComes 27 = .ok (.invokevirtual 256, 3) := by decide +kernel
theorem dX12_lineComes_30 : decode cX12_lineComes 30 = .ok (.ireturn, 1) := by decide +kernel
theorem dX12_lineComes_31 : decode cX12_lineComes 31 = .ok (.aload_n 0, 1) := by decide +kernel
theorem dX12_lineComes_32 : decode cX12_lineComes 32 = .ok (.getfield 75, 3) := by decide +kernel
theorem dX12_lineComes_35 : decode cX12_lineComes 35 = .ok (.bipush 100, 2) := by decide +kernel
theorem dX12_lineComes_37 : decode cX12_lineComes 37 = .ok (.aload_n 0, 1) := by decide +kernel
theorem dX12_lineComes_38 : decode cX12_lineComes 38 = .ok (.getfield 244, 3) := by decide +kernel
theorem dX12_lineComes_41 : decode cX12_lineComes 41 = .ok (.bipush 12, 2) := by decide +kernel
theorem dX12_lineComes_43 : decode cX12_lineComes 43 = .ok (.isub, 1) := by decide +kernel
theorem dX12_lineComes_44 : decode cX12_lineComes 44 = .ok (.iconst 1, 1) := by decide +kernel
theorem dX12_lineComes_45 : decode cX12_lineComes 45 = .ok (.iadd, 1) := by decide +kernel
theorem dX12_lineComes_46 : decode cX12_lineComes 46 = .ok (.iastore, 1) := by decide +kernel
theorem dX12_lineComes_47 : decode cX12_lineComes 47 = .ok (.aload_n 0, 1) := by decide +kernel
theorem dX12_lineComes_48 : decode cX12_lineComes 48 = .ok (.invokevirtual 259, 3) := by decide +kernel
theorem dX12_lineComes_51 : decode cX12_lineComes 51 = .ok (.iconst 0, 1) := by decide +kernel
theorem dX12_lineComes_52 : decode cX12_lineComes 52 = .ok (.ireturn, 1) := by decide +kernel
theorem dX12_lineComes_53 : decode cX12_lineComes 53 = .ok (.iload_n 1, 1) := by decide +kernel
theorem dX12_lineComes_54 : decode cX12_lineComes 54 = .ok (.iconst 5, 1) := by decide +kernel
theorem dX12_lineComes_55 : decode cX12_lineComes 55 = .ok (.if_icmp .ne 13, 3) := by decide +kernel
theorem dX12_lineComes_58 : decode cX12_lineComes 58 = .ok (.aload_n 0, 1) := by decide +kernel
theorem dX12_lineComes_59 : decode cX12_lineComes 59 = .ok (.getfield 75, 3) := by decide +kernel
theorem dX12_lineComes_62 : decode cX12_lineComes 62 = .ok (.bipush 101, 2) := by decide +kernel
theorem dX12_lineComes_64 : decode cX12_lineComes 64 = .ok (.iconst 1, 1) := by decide +kernel
theorem dX12_lineComes_65 : decode cX12_lineComes 65 = .ok (.iastore, 1) := by decide +kernel
theorem dX12_lineComes_66 : decode cX12_lineComes 66 = .ok (.iconst 0, 1) := by decide +kernel
theorem dX12_lineComes_67 : decode cX12_lineComes 67 = .ok (.ireturn, 1) := by decide +kernel
theorem dX12_lineComes_68 : decode cX12_lineComes 68 = .ok (.iload_n 1, 1) := by decide +kernel
theorem dX12_lineComes_69 : decode cX12_lineComes 69 = .ok (.bipush 6, 2) := by decide +kernel
theorem dX12_lineComes_71 : decode cX12_lineComes 71 = .ok (.if_icmp .ne 12, 3) := by decide +kernel
theorem dX12_lineComes_74 : decode cX12_lineComes 74 = .ok (.aload_n 0, 1) := by decide +kernel
theorem dX12_lineComes_75 : decode cX12_lineComes 75 = .ok (.iconst 0, 1) := by decide +kernel
theorem dX12_lineComes_76 : decode cX12_lineComes 76 = .ok (.iconst 3, 1) := by decide +kernel
theorem dX12_lineComes_77 : decode cX12_lineComes 77 = .ok (.bipush 102, 2) := by decide +kernel
theorem dX12_lineComes_79 : decode cX12_lineComes 79 = .ok (.invokevirtual 266, 3) := by decide +kernel
theorem dX12_lineComes_82 : decode cX12_lineComes 82 = .ok (.ireturn, 1) := by decide +kernel
theorem dX12_lineComes_83 : decode cX12_lineComes 83 = .ok (.iload_n 1, 1) := by decide +kernel
theorem dX12_lineComes_84 : decode cX12_lineComes 84 = .ok (.bipush 7, 2) := by decide +kernel
theorem dX12_lineComes_86 : decode cX12_lineComes 86 = .ok (.if_icmp .ne 12, 3) := by decide +kernel
theorem dX12_lineComes_89 : decode cX12_lineComes 89 = .ok (.aload_n 0, 1) := by decide +kernel
theorem dX12_lineComes_90 : decode cX12_lineComes 90 = .ok (.iconst 0, 1) := by decide +kernel
theorem dX12_lineComes_91 : decode cX12_lineComes 91 = .ok (.iconst 5, 1) := by decide +kernel
theorem dX12_lineComes_92 : decode cX12_lineComes 92 = .ok (.bipush 103, 2) := by decide +kernel
theorem dX12_lineComes_94 : decode cX12_lineComes 94 = .ok (.invokevirtual 266, 3) := by decide +kernel
theorem dX12_lineComes_97 : decode cX12_lineComes 97 = .ok (.ireturn, 1) := by decide +kernel
theorem dX12_lineComes_98 : decode cX12_lineComes 98 = .ok (.iload_n 1, 1) := by decide +kernel
theorem dX12_lineComes_99 : decode cX12_lineComes 99 = .ok (.bipush 8, 2) := by decide +kernel
theorem dX12_lineComes_101 : decode cX12_lineComes 101 = .ok (.if_icmp .ne 13, 3) := by decide +kernel
theorem dX12_lineComes_104 : decode cX12_lineComes 104 = .ok (.aload_n 0, 1) := by decide +kernel
theorem dX12_lineComes_105 : decode cX12_lineComes 105 = .ok (.iconst 0, 1) := by decide +kernel
theorem dX12_lineComes_106 : decode cX12_lineComes 106 = .ok (.bipush 99, 2) := by decide +kernel
theorem dX12_lineComes_108 : decode cX12_lineComes 108 = .ok (.bipush 104, 2) := by decide +kernel
theorem dX12_lineComes_110 : decode cX12_lineComes 110 = .ok (.invokevirtual 266, 3) := by decide +kernel
theorem dX12_lineComes_113 : decode cX12_lineComes 113 = .ok (.ireturn, 1) := by decide +kernel
theorem dX12_lineComes_114 : decode cX12_lineComes 114 = .ok (.iload_n 1, 1) := by decide +kernel
theorem dX12_lineComes_115 : decode cX12_lineComes 115 = .ok (.bipush 9, 2) := by decide +kernel
theorem dX12_lineComes_117 : decode cX12_lineComes 117 = .ok (.if_icmp .ne 13, 3) := by decide +kernel
theorem dX12_lineComes_120 : decode cX12_lineComes 120 = .ok (.aload_n 0, 1) := by decide +kernel
theorem dX12_lineComes_121 : decode cX12_lineComes 121 = .ok (.iconst 0, 1) := by decide +kernel
theorem dX12_lineComes_122 : decode cX12_lineComes 122 = .ok (.bipush 9, 2) := by decide +kernel
theorem dX12_lineComes_124 : decode cX12_lineComes 124 = .ok (.bipush 105, 2) := by decide +kernel
theorem dX12_lineComes_126 : decode cX12_lineComes 126 = .ok (.invokevirtual 266, 3) := by decide +kernel
theorem dX12_lineComes_129 : decode cX12_lineComes 129 = .ok (.ireturn, 1) := by decide +kernel
theorem dX12_lineComes_130 : decode cX12_lineComes 130 = .ok (.iload_n 1, 1) := by decide +kernel
theorem dX12_lineComes_131 : decode cX12_lineComes 131 = .ok (.bipush 11, 2) := by decide +kernel
theorem dX12_lineComes_133 : decode cX12_lineComes 133 = .ok (.if_icmp .ne 13, 3) := by decide +kernel
theorem dX12_lineComes_136 : decode cX12_lineComes 136 = .ok (.aload_n 0, 1) := by decide +kernel
theorem dX12_lineComes_137 : decode cX12_lineComes 137 = .ok (.iconst 0, 1) := by decide +kernel
theorem dX12_lineComes_138 : decode cX12_lineComes 138 = .ok (.bipush 99, 2) := by decide +kernel
theorem dX12_lineComes_140 : decode cX12_lineComes 140 = .ok (.bipush 108, 2) := by decide +kernel
theorem dX12_lineComes_142 : decode cX12_lineComes 142 = .ok (.invokevirtual 266, 3) := by decide +kernel
theorem dX12_lineComes_145 : decode cX12_lineComes 145 = .ok (.ireturn, 1) := by decide +kernel
theorem dX12_lineComes_146 : decode cX12_lineComes 146 = .ok (.iload_n 1, 1) := by decide +kernel
theorem dX12_lineComes_147 : decode cX12_lineComes 147 = .ok (.bipush 10, 2) := by decide +kernel
theorem dX12_lineComes_149 : decode cX12_lineComes 149 = .ok (.if_icmp .ne 55, 3) := by decide +kernel
theorem dX12_lineComes_152 : decode cX12_lineComes 152 = .ok (.aload_n 0, 1) := by decide +kernel
theorem dX12_lineComes_153 : decode cX12_lineComes 153 = .ok (.iconst 0, 1) := by decide +kernel
theorem dX12_lineComes_154 : decode cX12_lineComes 154 = .ok (.bipush 99, 2) := by decide +kernel
theorem dX12_lineComes_156 : decode cX12_lineComes 156 = .ok (.bipush 106, 2) := by decide +kernel
theorem dX12_lineComes_158 : decode cX12_lineComes 158 = .ok (.invokevirtual 266, 3) := by decide +kernel
theorem dX12_lineComes_161 : decode cX12_lineComes 161 = .ok (.iconst (-1), 1) := by decide +kernel
theorem dX12_lineComes_162 : decode cX12_lineComes 162 = .ok (.if_icmp .ne 5, 3) := by decide +kernel
theorem dX12_lineComes_165 : decode cX12_lineComes 165 = .ok (.iconst (-1), 1) := by decide +kernel
theorem dX12_lineComes_166 : decode cX12_lineComes 166 = .ok (.ireturn, 1) := by decide +kernel
theorem dX12_lineComes_167 : decode cX12_lineComes 167 = .ok (.aload_n 0, 1) := by decide +kernel
theorem dX12_lineComes_168 : decode cX12_lineComes 168 = .ok (.bipush 17, 2) := by decide +kernel
theorem dX12_lineComes_170 : decode cX12_lineComes 170 = .ok (.bipush 17, 2) := by decide +kernel
theorem dX12_lineComes_172 : decode cX12_lineComes 172 = .ok (.invokevirtual 262, 3) := by decide +kernel
theorem dX12_lineComes_175 : decode cX12_lineComes 175 = .ok (.ifCond .ne 9, 3) := by decide +kernel
theorem dX12_lineComes_178 : decode cX12_lineComes 178 = .ok (.aload_n 0, 1) := by decide +kernel
theorem dX12_lineComes_179 : decode cX12_lineComes 179 = .ok (.iconst 1, 1) := by decide +kernel
theorem dX12_lineComes_180 : decode cX12_lineComes 180 = .ok (.invokevirtual 256, 3) := by decide +kernel
theorem dX12_lineComes_183 : decode cX12_lineComes 183 = .ok (.ireturn, 1) := by decide +kernel
theorem dX12_lineComes_184 : decode cX12_lineComes 184 = .ok (.aload_n 0, 1) := by decide +kernel
theorem dX12_lineComes_185 : decode cX12_lineComes 185 = .ok (.invokevirtual 259, 3) := by decide +kernel
theorem dX12_lineComes_188 : decode cX12_lineComes 188 = .ok (.aload_n 0, 1) := by decide +kernel
theorem dX12_lineComes_189 : decode cX12_lineComes 189 = .ok (.aload_n 0, 1) := by decide +kernel
theorem dX12_lineComes_190 : decode cX12_lineComes 190 = .ok (.getfield 75, 3) := by decide +kernel
theorem dX12_lineComes_193 : decode cX12_lineComes 193 = .ok (.bipush 106, 2) := by decide +kernel
theorem dX12_lineComes_195 : decode cX12_lineComes 195 = .ok (.iaload, 1) := by decide +kernel
theorem dX12_lineComes_196 : decode cX12_lineComes 196 = .ok (.bipush 99, 2) := by decide +kernel
theorem dX12_lineComes_198 : decode cX12_lineComes 198 = .ok (.bipush 107, 2) := by decide +kernel
theorem dX12_lineComes_200 : decode cX12_lineComes 200 = .ok (.invokevirtual 266, 3) := by decide +kernel
theorem dX12_lineComes_203 : decode cX12_lineComes 203 = .ok (.ireturn, 1) := by decide +kernel
theorem dX12_lineComes_204 : decode cX12_lineComes 204 = .ok (.aload_n 0, 1) := by decide +kernel
theorem dX12_lineComes_205 : decode cX12_lineComes 205 = .ok (.bipush 15, 2) := by decide +kernel
theorem dX12_lineComes_207 : decode cX12_lineComes 207 = .ok (.bipush 16, 2) := by decide +kernel
theorem dX12_lineComes_209 : decode cX12_lineComes 209 = .ok (.invokevirtual 262, 3) := by decide +kernel
theorem dX12_lineComes_212 : decode cX12_lineComes 212 = .ok (.ifCond .ne 9, 3) := by decide +kernel
theorem dX12_lineComes_215 : decode cX12_lineComes 215 = .ok (.aload_n 0, 1) := by decide +kernel
theorem dX12_lineComes_216 : decode cX12_lineComes 216 = .ok (.iconst 1, 1) := by decide +kernel
theorem dX12_lineComes_217 : decode cX12_lineComes 217 = .ok (.invokevirtual 256, 3) := by decide +kernel
theorem dX12_lineComes_220 : decode cX12_lineComes 220 = .ok (.ireturn, 1) := by decide +kernel
theorem dX12_lineComes_221 : decode cX12_lineComes 221 = .ok (.bipush 100, 2) := by decide +kernel
theorem dX12_lineComes_223 : decode cX12_lineComes 223 = .ok (.aload_n 0, 1) := by decide +kernel
theorem dX12_lineComes_224 : decode cX12_lineComes 224 = .ok (.getfield 244, 3) := by decide +kernel
theorem dX12_lineComes_227 : decode cX12_lineComes 227 = .ok (.bipush 15, 2) := by decide +kernel
theorem dX12_lineComes_229 : decode cX12_lineComes 229 = .ok (.if_icmp .ne 8, 3) := by decide +kernel
theorem dX12_lineComes_232 : decode cX12_lineComes 232 = .ok (.bipush 10, 2) := by decide +kernel
theorem dX12_lineComes_234 : decode cX12_lineComes 234 = .ok (.goto 5, 3) := by decide +kernel
theorem dX12_lineComes_237 : decode cX12_lineComes 237 = .ok (.bipush 30, 2) := by decide +kernel
theorem dX12_lineComes_239 : decode cX12_lineComes 239 = .ok (.iadd, 1) := by decide +kernel
theorem dX12_lineComes_240 : decode cX12_lineComes 240 = .ok (.iconst 4, 1) := by decide +kernel
theorem dX12_lineComes_241 : decode cX12_lineComes 241 = .ok (.iload_n 1, 1) := by decide +kernel
theorem dX12_lineComes_242 : decode cX12_lineComes 242 = .ok (.imul, 1) := by decide +kernel
theorem dX12_lineComes_243 : decode cX12_lineComes 243 = .ok (.iadd, 1) := by decide +kernel
theorem dX12_lineComes_244 : decode cX12_lineComes 244 = .ok (.istore_n 2, 1) := by decide +kernel
theorem dX12_lineComes_245 : decode cX12_lineComes 245 = .ok (.aload_n 0, 1) := by decide +kernel
theorem dX12_lineComes_246 : decode cX12_lineComes 246 = .ok (.invokevirtual 259, 3) := by decide +kernel
theorem dX12_lineComes_249 : decode cX12_lineComes 249 = .ok (.aload_n 0, 1) := by decide +kernel
theorem dX12_lineComes_250 : decode cX12_lineComes 250 = .ok (.iconst 0, 1) := by decide +kernel
theorem dX12_lineComes_251 : decode cX12_lineComes 251 = .ok (.iconst 3, 1) := by decide +kernel
theorem dX12_lineComes_252 : decode cX12_lineComes 252 = .ok (.invokevirtual 262, 3) := by decide +kernel
theorem dX12_lineComes_255 : decode cX12_lineComes 255 = .ok (.ifCond .ne 9, 3) := by decide +kernel
theorem dX12_lineComes_258 : decode cX12_lineComes 258 = .ok (.aload_n 0, 1) := by decide +kernel
theorem dX12_lineComes_259 : decode cX12_lineComes 259 = .ok (.iconst 1, 1) := by decide +kernel
theorem dX12_lineComes_260 : decode cX12_lineComes 260 = .ok (.invokevirtual 256, 3) := by decide +kernel
theorem dX12_lineComes_263 : decode cX12_lineComes 263 = .ok (.ireturn, 1) := by decide +kernel
theorem dX12_lineComes_264 : decode cX12_lineComes 264 = .ok (.aload_n 0, 1) := by decide +kernel
theorem dX12_lineComes_265 : decode cX12_lineComes 265 = .ok (.getfield 75, 3) := by decide +kernel
theorem dX12_lineComes_268 : decode cX12_lineComes 268 = .ok (.iload_n 2, 1) := by decide +kernel
theorem dX12_lineComes_269 : decode cX12_lineComes 269 = .ok (.aload_n 0, 1) := by decide +kernel
theorem dX12_lineComes_270 : decode cX12_lineComes 270 = .ok (.getfield 244, 3) := by decide +kernel
theorem dX12_lineComes_273 : decode cX12_lineComes 273 = .ok (.iadd, 1) := by decide +kernel
theorem dX12_lineComes_274 : decode cX12_lineComes 274 = .ok (.iconst 1, 1) := by decide +kernel
theorem dX12_lineComes_275 : decode cX12_lineComes 275 = .ok (.iastore, 1) := by decide +kernel
theorem dX12_lineComes_276 : decode cX12_lineComes 276 = .ok (.aload_n 0, 1) := by decide +kernel
theorem dX12_lineComes_277 : decode cX12_lineComes 277 = .ok (.invokevirtual 259, 3) := by decide +kernel
theorem dX12_lineComes_280 : decode cX12_lineComes 280 = .ok (.iconst 0, 1) := by decide +kernel
theorem dX12_lineComes_281 : decode cX12_lineComes 281 = .ok (.ireturn, 1) := by decide +kernel
theorem dX12_reads_0 : decode cX12_reads 0 = .ok (.aload_n 0, 1) := by decide +kernel
theorem dX12_reads_1 : decode cX12_reads 1 = .ok (.iconst 0, 1) := by decide +kernel
theorem dX12_reads_2 : decode cX12_reads 2 = .ok (.putfield 225, 3) := by decide +kernel
theorem dX12_reads_5 : decode cX12_reads 5 = .ok (.aload_n 0, 1) := by decide +kernel
theorem dX12_reads_6 : decode cX12_reads 6 = .ok (.iconst 0, 1) := by decide +kernel
theorem dX12_reads_7 : decode cX12_reads 7 = .ok (.putfield 270, 3) := by decide +kernel
theorem dX12_reads_10 : decode cX12_reads 10 = .ok (.iconst 0, 1) := by decide +kernel
theorem dX12_reads_11 : decode cX12_reads 11 = .ok (.istore_n 1, 1) := by decide +kernel
theorem dX12_reads_12 : decode cX12_reads 12 = .ok (.iload_n 1, 1) := by decide +kernel
theorem dX12_reads_13 : decode cX12_reads 13 = .ok (.bipush 50, 2) := by decide +kernel
theorem dX12_reads_15 : decode cX12_reads 15 = .ok (.if_icmp .ge 19, 3) := by decide +kernel
theorem dX12_reads_18 : decode cX12_reads 18 = .ok (.aload_n 0, 1) := by decide +kernel
theorem dX12_reads_19 : decode cX12_reads 19 = .ok (.getfield 75, 3) := by decide +kernel
theorem dX12_reads_22 : decode cX12_reads 22 = .ok (.bipush 100, 2) := by decide +kernel
theorem dX12_reads_24 : decode cX12_reads 24 = .ok (.iload_n 1, 1) := by decide +kernel
theorem dX12_reads_25 : decode cX12_reads 25 = .ok (.iadd, 1) := by decide +kernel
theorem dX12_reads_26 : decode cX12_reads 26 = .ok (.iconst 0, 1) := by decide +kernel
theorem dX12_reads_27 : decode cX12_reads 27 = .ok (.iastore, 1) := by decide +kernel
theorem dX12_reads_28 : decode cX12_reads 28 = .ok (.iinc 1 1, 3) := by decide +kernel
theorem dX12_reads_31 : decode cX12_reads 31 = .ok (.goto (-19), 3) := by decide +kernel
theorem dX12_reads_34 : decode cX12_reads 34 = .ok (.aload_n 0, 1) := by decide +kernel
theorem dX12_reads_35 : decode cX12_reads 35 = .ok (.getfield 75, 3) := by decide +kernel
theorem dX12_reads_38 : decode cX12_reads 38 = .ok (.bipush 100, 2) := by decide +kernel
theorem dX12_reads_40 : decode cX12_reads 40 = .ok (.iconst 3, 1) := by decide +kernel
theorem dX12_reads_41 : decode cX12_reads 41 = .ok (.iastore, 1) := by decide +kernel
theorem dX12_reads_42 : decode cX12_reads 42 = .ok (.aload_n 0, 1) := by decide +kernel
theorem dX12_reads_43 : decode cX12_reads 43 = .ok (.getfield 75, 3) := by decide +kernel
theorem dX12_reads_46 : decode cX12_reads 46 = .ok (.bipush 102, 2) := by decide +kernel
theorem dX12_reads_48 : decode cX12_reads 48 = .ok (.iconst 1, 1) := by decide +kernel
theorem dX12_reads_49 : decode cX12_reads 49 = .ok (.iastore, 1) := by decide +kernel
theorem dX12_reads_50 : decode cX12_reads 50 = .ok (.aload_n 0, 1) := by decide +kernel
theorem dX12_reads_51 : decode cX12_reads 51 = .ok (.getfield 75, 3) := by decide +kernel
theorem dX12_reads_54 : decode cX12_reads 54 = .ok (.bipush 103, 2) := by decide +kernel
theorem dX12_reads_56 : decode cX12_reads 56 = .ok (.iconst 2, 1) := by decide +kernel
theorem dX12_reads_57 : decode cX12_reads 57 = .ok (.iastore, 1) := by decide +kernel
theorem dX12_reads_58 : decode cX12_reads 58 = .ok (.aload_n 0, 1) := by decide +kernel
theorem dX12_reads_59 : decode cX12_reads 59 = .ok (.getfield 75, 3) := by decide +kernel
theorem dX12_reads_62 : decode cX12_reads 62 = .ok (.bipush 104, 2) := by decide +kernel
theorem dX12_reads_64 : decode cX12_reads 64 = .ok (.bipush 60, 2) := by decide +kernel
theorem dX12_reads_66 : decode cX12_reads 66 = .ok (.iastore, 1) := by decide +kernel
theorem dX12_reads_67 : decode cX12_reads 67 = .ok (.aload_n 0, 1) := by decide +kernel
theorem dX12_reads_68 : decode cX12_reads 68 = .ok (.getfield 75, 3) := by decide +kernel
theorem dX12_reads_71 : decode cX12_reads 71 = .ok (.bipush 105, 2) := by decide +kernel
theorem dX12_reads_73 : decode cX12_reads 73 = .ok (.iconst 1, 1) := by decide +kernel
theorem dX12_reads_74 : decode cX12_reads 74 = .ok (.iastore, 1) := by decide +kernel
theorem dX12_reads_75 : decode cX12_reads 75 = .ok (.aload_n 0, 1) := by decide +kernel
theorem dX12_reads_76 : decode cX12_reads 76 = .ok (.getfield 75, 3) := by decide +kernel
theorem dX12_reads_79 : decode cX12_reads 79 = .ok (.bipush 106, 2) := by decide +kernel
theorem dX12_reads_81 : decode cX12_reads 81 = .ok (.bipush 10, 2) := by decide +kernel
theorem dX12_reads_83 : decode cX12_reads 83 = .ok (.iastore, 1) := by decide +kernel
theorem dX12_reads_84 : decode cX12_reads 84 = .ok (.aload_n 0, 1) := by decide +kernel
theorem dX12_reads_85 : decode cX12_reads 85 = .ok (.getfield 75, 3) := by decide +kernel
theorem dX12_reads_88 : decode cX12_reads 88 = .ok (.bipush 107, 2) := by decide +kernel
theorem dX12_reads_90 : decode cX12_reads 90 = .ok (.bipush 30, 2) := by decide +kernel
theorem dX12_reads_92 : decode cX12_reads 92 = .ok (.iastore, 1) := by decide +kernel
theorem dX12_reads_93 : decode cX12_reads 93 = .ok (.aload_n 0, 1) := by decide +kernel
theorem dX12_reads_94 : decode cX12_reads 94 = .ok (.getfield 75, 3) := by decide +kernel
theorem dX12_reads_97 : decode cX12_reads 97 = .ok (.bipush 108, 2) := by decide +kernel
theorem dX12_reads_99 : decode cX12_reads 99 = .ok (.iconst 2, 1) := by decide +kernel
theorem dX12_reads_100 : decode cX12_reads 100 = .ok (.iastore, 1) := by decide +kernel
theorem dX12_reads_101 : decode cX12_reads 101 = .ok (.aload_n 0, 1) := by decide +kernel
theorem dX12_reads_102 : decode cX12_reads 102 = .ok (.invokevirtual 259, 3) := by decide +kernel
theorem dX12_reads_105 : decode cX12_reads 105 = .ok (.aload_n 0, 1) := by decide +kernel
theorem dX12_reads_106 : decode cX12_reads 106 = .ok (.iconst 0, 1) := by decide +kernel
theorem dX12_reads_107 : decode cX12_reads 107 = .ok (.bipush 11, 2) := by decide +kernel
theorem dX12_reads_109 : decode cX12_reads 109 = .ok (.invokevirtual 262, 3) := by decide +kernel
theorem dX12_reads_112 : decode cX12_reads 112 = .ok (.ifCond .eq 59, 3) := by decide +kernel
theorem dX12_reads_115 : decode cX12_reads 115 = .ok (.aload_n 0, 1) := by decide +kernel
theorem dX12_reads_116 : decode cX12_reads 116 = .ok (.getfield 270, 3) := by decide +kernel
theorem dX12_reads_119 : decode cX12_reads 119 = .ok (.bipush 40, 2) := by decide +kernel
theorem dX12_reads_121 : decode cX12_reads 121 = .ok (.if_icmp .ne 9, 3) := by decide +kernel
theorem dX12_reads_124 : decode cX12_reads 124 = .ok (.aload_n 0, 1) := by decide +kernel
theorem dX12_reads_125 : decode cX12_reads 125 = .ok (.iconst 3, 1) := by decide +kernel
theorem dX12_reads_126 : decode cX12_reads 126 = .ok (.invokevirtual 256, 3) := by decide +kernel
theorem dX12_reads_129 : decode cX12_reads 129 = .ok (.ireturn, 1) := by decide +kernel
theorem dX12_reads_130 : decode cX12_reads 130 = .ok (.aload_n 0, 1) := by decide +kernel
theorem dX12_reads_131 : decode cX12_reads 131 = .ok (.invokevirtual 273, 3) := by decide +kernel
theorem dX12_reads_134 : decode cX12_reads 134 = .ok (.iconst (-1), 1) := by decide +kernel
theorem dX12_reads_135 : decode cX12_reads 135 = .ok (.if_icmp .ne 5, 3) := by decide +kernel
theorem dX12_reads_138 : decode cX12_reads 138 = .ok (.iconst (-1), 1) := by decide +kernel
theorem dX12_reads_139 : decode cX12_reads 139 = .ok (.ireturn, 1) := by decide +kernel
theorem dX12_reads_140 : decode cX12_reads 140 = .ok (.aload_n 0, 1) := by decide +kernel
theorem dX12_reads_141 : decode cX12_reads 141 = .ok (.aload_n 0, 1) := by decide +kernel
theorem dX12_reads_142 : decode cX12_reads 142 = .ok (.getfield 270, 3) := by decide +kernel
theorem dX12_reads_145 : decode cX12_reads 145 = .ok (.iconst 1, 1) := by decide +kernel
theorem dX12_reads_146 : decode cX12_reads 146 = .ok (.iadd, 1) := by decide +kernel
theorem dX12_reads_147 : decode cX12_reads 147 = .ok (.putfield 270, 3) := by decide +kernel
theorem dX12_reads_150 : decode cX12_reads 150 = .ok (.aload_n 0, 1) := by decide +kernel
theorem dX12_reads_151 : decode cX12_reads 151 = .ok (.getfield 234, 3) := by decide +kernel
theorem dX12_reads_154 : decode cX12_reads 154 = .ok (.iconst 4, 1) := by decide +kernel
theorem dX12_reads_155 : decode cX12_reads 155 = .ok (.if_icmp .eq 9, 3) := by decide +kernel
theorem dX12_reads_158 : decode cX12_reads 158 = .ok (.aload_n 0, 1) := by decide +kernel
theorem dX12_reads_159 : decode cX12_reads 159 = .ok (.iconst 1, 1) := by decide +kernel
theorem dX12_reads_160 : decode cX12_reads 160 = .ok (.invokevirtual 256, 3) := by decide +kernel
theorem dX12_reads_163 : decode cX12_reads 163 = .ok (.ireturn, 1) := by decide +kernel
theorem dX12_reads_164 : decode cX12_reads 164 = .ok (.aload_n 0, 1) := by decide +kernel
theorem dX12_reads_165 : decode cX12_reads 165 = .ok (.invokevirtual 259, 3) := by decide +kernel
theorem dX12_reads_168 : decode cX12_reads 168 = .ok (.goto (-63), 3) := by decide +kernel
theorem dX12_reads_171 : decode cX12_reads 171 = .ok (.aload_n 0, 1) := by decide +kernel
theorem dX12_reads_172 : decode cX12_reads 172 = .ok (.getfield 234, 3) := by decide +kernel
theorem dX12_reads_175 : decode cX12_reads 175 = .ok (.ifCond .ne 10, 3) := by decide +kernel
theorem dX12_reads_178 : decode cX12_reads 178 = .ok (.aload_n 0, 1) := by decide +kernel
theorem dX12_reads_179 : decode cX12_reads 179 = .ok (.getfield 270, 3) := by decide +kernel
theorem dX12_reads_182 : decode cX12_reads 182 = .ok (.goto 8, 3) := by decide +kernel
theorem dX12_reads_185 : decode cX12_reads 185 = .ok (.aload_n 0, 1) := by decide +kernel
theorem dX12_reads_186 : decode cX12_reads 186 = .ok (.iconst 1, 1) := by decide +kernel
theorem dX12_reads_187 : decode cX12_reads 187 = .ok (.invokevirtual 256, 3) := by decide +kernel
theorem dX12_reads_190 : decode cX12_reads 190 = .ok (.ireturn, 1) := by decide +kernel
theorem dX12_custom_0 : decode cX12_custom 0 = .ok (.aload_n 0, 1) := by decide +kernel
theorem dX12_custom_1 : decode cX12_custom 1 = .ok (.iconst 0, 1) := by decide +kernel
theorem dX12_custom_2 : decode cX12_custom 2 = .ok (.putfield 188, 3) := by decide +kernel
theorem dX12_custom_5 : decode cX12_custom 5 = .ok (.aload_n 0, 1) := by decide +kernel
theorem dX12_custom_6 : decode cX12_custom 6 = .ok (.iload_n 1, 1) := by decide +kernel
theorem dX12_custom_7 : decode cX12_custom 7 = .ok (.iconst 0, 1) := by decide +kernel
theorem dX12_custom_8 : decode cX12_custom 8 = .ok (.iconst 1, 1) := by decide +kernel
theorem dX12_custom_9 : decode cX12_custom 9 = .ok (.invokevirtual 201, 3) := by decide +kernel
theorem dX12_custom_12 : decode cX12_custom 12 = .ok (.ifCond .ne 10, 3) := by decide +kernel
theorem dX12_custom_15 : decode cX12_custom 15 = .ok (.aload_n 0, 1) := by decide +kernel
theorem dX12_custom_16 : decode cX12_custom 16 = .ok (.iconst 0, 1) := by decide +kernel
theorem dX12_custom_17 : decode cX12_custom 17 = .ok (.putfield 208, 3) := by decide +kernel
theorem dX12_custom_20 : decode cX12_custom 20 = .ok (.iconst (-1), 1) := by decide +kernel
theorem dX12_custom_21 : decode cX12_custom 21 = .ok (.ireturn, 1) := by decide +kernel
theorem dX12_custom_22 : decode cX12_custom 22 = .ok (.aload_n 0, 1) := by decide +kernel
theorem dX12_custom_23 : decode cX12_custom 23 = .ok (.invokevirtual 277, 3) := by decide +kernel
theorem dX12_custom_26 : decode cX12_custom 26 = .ok (.istore_n 2, 1) := by decide +kernel
theorem dX12_custom_27 : decode cX12_custom 27 = .ok (.aload_n 0, 1) := by decide +kernel
theorem dX12_custom_28 : decode cX12_custom 28 = .ok (.iconst 0, 1) := by decide +kernel
theorem dX12_custom_29 : decode cX12_custom 29 = .ok (.putfield 208, 3) := by decide +kernel
theorem dX12_custom_32 : decode cX12_custom 32 = .ok (.aload_n 0, 1) := by decide +kernel
theorem dX12_custom_33 : decode cX12_custom 33 = .ok (.iload_n 2, 1) := by decide +kernel
theorem dX12_custom_34 : decode cX12_custom 34 = .ok (.iconst (-1), 1) := by decide +kernel
theorem dX12_custom_35 : decode cX12_custom 35 = .ok (.if_icmp .ne 10, 3) := by decide +kernel
theorem dX12_custom_38 : decode cX12_custom 38 = .ok (.aload_n 0, 1) := by decide +kernel
theorem dX12_custom_39 : decode cX12_custom 39 = .ok (.getfield 250, 3) := by decide +kernel
theorem dX12_custom_42 : decode cX12_custom 42 = .ok (.goto 4, 3) := by decide +kernel
theorem dX12_custom_45 : decode cX12_custom 45 = .ok (.iconst 0, 1) := by decide +kernel
theorem dX12_custom_46 : decode cX12_custom 46 = .ok (.putfield 280, 3) := by decide +kernel
theorem dX12_custom_49 : decode cX12_custom 49 = .ok (.aload_n 0, 1) := by decide +kernel
theorem dX12_custom_50 : decode cX12_custom 50 = .ok (.iload_n 2, 1) := by decide +kernel
theorem dX12_custom_51 : decode cX12_custom 51 = .ok (.iconst (-1), 1) := by decide +kernel
theorem dX12_custom_52 : decode cX12_custom 52 = .ok (.if_icmp .ne 10, 3) := by decide +kernel
theorem dX12_custom_55 : decode cX12_custom 55 = .ok (.aload_n 0, 1) := by decide +kernel
theorem dX12_custom_56 : decode cX12_custom 56 = .ok (.getfield 253, 3) := by decide +kernel
theorem dX12_custom_59 : decode cX12_custom 59 = .ok (.goto 4, 3) := by decide +kernel
theorem dX12_custom_62 : decode cX12_custom 62 = .ok (.iconst (-1), 1) := by decide +kernel
theorem dX12_custom_63 : decode cX12_custom 63 = .ok (.putfield 81, 3) := by decide +kernel
theorem dX12_custom_66 : decode cX12_custom 66 = .ok (.iconst 0, 1) := by decide +kernel
theorem dX12_custom_67 : decode cX12_custom 67 = .ok (.istore_n 3, 1) := by decide +kernel
theorem dX12_custom_68 : decode cX12_custom 68 = .ok (.iload_n 3, 1) := by decide +kernel
theorem dX12_custom_69 : decode cX12_custom 69 = .ok (.bipush 50, 2) := by decide +kernel
theorem dX12_custom_71 : decode cX12_custom 71 = .ok (.if_icmp .ge 34, 3) := by decide +kernel
theorem dX12_custom_74 : decode cX12_custom 74 = .ok (.iload_n 2, 1) := by decide +kernel
theorem dX12_custom_75 : decode cX12_custom 75 = .ok (.iconst (-1), 1) := by decide +kernel
theorem dX12_custom_76 : decode cX12_custom 76 = .ok (.if_icmp .eq 29, 3) := by decide +kernel
theorem dX12_custom_79 : decode cX12_custom 79 = .ok (.aload_n 0, 1) := by decide +kernel
theorem dX12_custom_80 : decode cX12_custom 80 = .ok (.getfield 75, 3) := by decide +kernel
theorem dX12_custom_83 : decode cX12_custom 83 = .ok (.bipush 50, 2) := by decide +kernel
theorem dX12_custom_85 : decode cX12_custom 85 = .ok (.iload_n 1, 1) := by decide +kernel
theorem dX12_custom_86 : decode cX12_custom 86 = .ok (.imul, 1) := by decide +kernel
theorem dX12_custom_87 : decode cX12_custom 87 = .ok (.iload_n 3, 1) := by decide +kernel
theorem dX12_custom_88 : decode cX12_custom 88 = .ok (.iadd, 1) := by decide +kernel
theorem dX12_custom_89 : decode cX12_custom 89 = .ok (.aload_n 0, 1) := by decide +kernel
theorem dX12_custom_90 : decode cX12_custom 90 = .ok (.getfield 75, 3) := by decide +kernel
theorem dX12_custom_93 : decode cX12_custom 93 = .ok (.bipush 100, 2) := by decide +kernel
theorem dX12_custom_95 : decode cX12_custom 95 = .ok (.iload_n 3, 1) := by decide +kernel
theorem dX12_custom_96 : decode cX12_custom 96 = .ok (.iadd, 1) := by decide +kernel
theorem dX12_custom_97 : decode cX12_custom 97 = .ok (.iaload, 1) := by decide +kernel
theorem dX12_custom_98 : decode cX12_custom 98 = .ok (.iastore, 1) := by decide +kernel
theorem dX12_custom_99 : decode cX12_custom 99 = .ok (.iinc 3 1, 3) := by decide +kernel
theorem dX12_custom_102 : decode cX12_custom 102 = .ok (.goto (-34), 3) := by decide +kernel
theorem dX12_custom_105 : decode cX12_custom 105 = .ok (.iload_n 2, 1) := by decide +kernel
theorem dX12_custom_106 : decode cX12_custom 106 = .ok (.ireturn, 1) := by decide +kernel
theorem dX12_fault_0 : decode cX12_fault 0 = .ok (.aload_n 0, 1) := by decide +kernel
theorem dX12_fault_1 : decode cX12_fault 1 = .ok (.iconst 0, 1) := by decide +kernel
theorem dX12_fault_2 : decode cX12_fault 2 = .ok (.putfield 188, 3) := by decide +kernel
theorem dX12_fault_5 : decode cX12_fault 5 = .ok (.iload_n 1, 1) := by decide +kernel
theorem dX12_fault_6 : decode cX12_fault 6 = .ok (.ifCond .ne 10, 3) := by decide +kernel
theorem dX12_fault_9 : decode cX12_fault 9 = .ok (.aload_n 0, 1) := by decide +kernel
theorem dX12_fault_10 : decode cX12_fault 10 = .ok (.getfield 280, 3) := by decide +kernel
theorem dX12_fault_13 : decode cX12_fault 13 = .ok (.goto 16, 3) := by decide +kernel
theorem dX12_fault_16 : decode cX12_fault 16 = .ok (.iload_n 1, 1) := by decide +kernel
theorem dX12_fault_17 : decode cX12_fault 17 = .ok (.iconst 1, 1) := by decide +kernel
theorem dX12_fault_18 : decode cX12_fault 18 = .ok (.if_icmp .ne 10, 3) := by decide +kernel
theorem dX12_fault_21 : decode cX12_fault 21 = .ok (.aload_n 0, 1) := by decide +kernel
theorem dX12_fault_22 : decode cX12_fault 22 = .ok (.getfield 81, 3) := by decide +kernel
theorem dX12_fault_25 : decode cX12_fault 25 = .ok (.goto 4, 3) := by decide +kernel
theorem dX12_fault_28 : decode cX12_fault 28 = .ok (.iconst (-1), 1) := by decide +kernel
theorem dX12_fault_29 : decode cX12_fault 29 = .ok (.ireturn, 1) := by decide +kernel
theorem dX12_isAhead_0 : decode cX12_isAhead 0 = .ok (.aload_n 0, 1) := by decide +kernel
theorem dX12_isAhead_1 : decode cX12_isAhead 1 = .ok (.getfield 75, 3) := by decide +kernel
theorem dX12_isAhead_4 : decode cX12_isAhead 4 = .ok (.bipush 50, 2) := by decide +kernel
theorem dX12_isAhead_6 : decode cX12_isAhead 6 = .ok (.iload_n 1, 1) := by decide +kernel
theorem dX12_isAhead_7 : decode cX12_isAhead 7 = .ok (.imul, 1) := by decide +kernel
theorem dX12_isAhead_8 : decode cX12_isAhead 8 = .ok (.bipush 30, 2) := by decide +kernel
theorem dX12_isAhead_10 : decode cX12_isAhead 10 = .ok (.iadd, 1) := by decide +kernel
theorem dX12_isAhead_11 : decode cX12_isAhead 11 = .ok (.iconst 4, 1) := by decide +kernel
theorem dX12_isAhead_12 : decode cX12_isAhead 12 = .ok (.iload_n 2, 1) := by decide +kernel
theorem dX12_isAhead_13 : decode cX12_isAhead 13 = .ok (.imul, 1) := by decide +kernel
theorem dX12_isAhead_14 : decode cX12_isAhead 14 = .ok (.iadd, 1) := by decide +kernel
theorem dX12_isAhead_15 : decode cX12_isAhead 15 = .ok (.iload_n 3, 1) := by decide +kernel
theorem dX12_isAhead_16 : decode cX12_isAhead 16 = .ok (.iadd, 1) := by decide +kernel
theorem dX12_isAhead_17 : decode cX12_isAhead 17 = .ok (.iaload, 1) := by decide +kernel
theorem dX12_isAhead_18 : decode cX12_isAhead 18 = .ok (.iconst 1, 1) := by decide +kernel
theorem dX12_isAhead_19 : decode cX12_isAhead 19 = .ok (.if_icmp .ne 28, 3) := by decide +kernel
theorem dX12_isAhead_22 : decode cX12_isAhead 22 = .ok (.aload_n 0, 1) := by decide +kernel
theorem dX12_isAhead_23 : decode cX12_isAhead 23 = .ok (.getfield 75, 3) := by decide +kernel
theorem dX12_isAhead_26 : decode cX12_isAhead 26 = .ok (.bipush 50, 2) := by decide +kernel
theorem dX12_isAhead_28 : decode cX12_isAhead 28 = .ok (.iload_n 1, 1) := by decide +kernel
theorem dX12_isAhead_29 : decode cX12_isAhead 29 = .ok (.imul, 1) := by decide +kernel
theorem dX12_isAhead_30 : decode cX12_isAhead 30 = .ok (.bipush 30, 2) := by decide +kernel
theorem dX12_isAhead_32 : decode cX12_isAhead 32 = .ok (.iadd, 1) := by decide +kernel
theorem dX12_isAhead_33 : decode cX12_isAhead 33 = .ok (.iconst 4, 1) := by decide +kernel
theorem dX12_isAhead_34 : decode cX12_isAhead 34 = .ok (.iload_n 3, 1) := by decide +kernel
theorem dX12_isAhead_35 : decode cX12_isAhead 35 = .ok (.imul, 1) := by decide +kernel
theorem dX12_isAhead_36 : decode cX12_isAhead 36 = .ok (.iadd, 1) := by decide +kernel
theorem dX12_isAhead_37 : decode cX12_isAhead 37 = .ok (.iload_n 2, 1) := by decide +kernel
theorem dX12_isAhead_38 : decode cX12_isAhead 38 = .ok (.iadd, 1) := by decide +kernel
theorem dX12_isAhead_39 : decode cX12_isAhead 39 = .ok (.iaload, 1) := by decide +kernel
theorem dX12_isAhead_40 : decode cX12_isAhead 40 = .ok (.ifCond .ne 7, 3) := by decide +kernel
theorem dX12_isAhead_43 : decode cX12_isAhead 43 = .ok (.iconst 1, 1) := by decide +kernel
theorem dX12_isAhead_44 : decode cX12_isAhead 44 = .ok (.goto 4, 3) := by decide +kernel
theorem dX12_isAhead_47 : decode cX12_isAhead 47 = .ok (.iconst 0, 1) := by decide +kernel
theorem dX12_isAhead_48 : decode cX12_isAhead 48 = .ok (.ireturn, 1) := by decide +kernel
theorem dX12_customs_0 : decode cX12_customs 0 = .ok (.aload_n 0, 1) := by decide +kernel
theorem dX12_customs_1 : decode cX12_customs 1 = .ok (.iconst 0, 1) := by decide +kernel
theorem dX12_customs_2 : decode cX12_customs 2 = .ok (.putfield 188, 3) := by decide +kernel
theorem dX12_customs_5 : decode cX12_customs 5 = .ok (.aload_n 0, 1) := by decide +kernel
theorem dX12_customs_6 : decode cX12_customs 6 = .ok (.iload_n 1, 1) := by decide +kernel
theorem dX12_customs_7 : decode cX12_customs 7 = .ok (.iconst 0, 1) := by decide +kernel
theorem dX12_customs_8 : decode cX12_customs 8 = .ok (.iconst 1, 1) := by decide +kernel
theorem dX12_customs_9 : decode cX12_customs 9 = .ok (.invokevirtual 201, 3) := by decide +kernel
theorem dX12_customs_12 : decode cX12_customs 12 = .ok (.ifCond .ne 5, 3) := by decide +kernel
theorem dX12_customs_15 : decode cX12_customs 15 = .ok (.iconst (-1), 1) := by decide +kernel
theorem dX12_customs_16 : decode cX12_customs 16 = .ok (.ireturn, 1) := by decide +kernel
theorem dX12_customs_17 : decode cX12_customs 17 = .ok (.aload_n 0, 1) := by decide +kernel
theorem dX12_customs_18 : decode cX12_customs 18 = .ok (.iload_n 2, 1) := by decide +kernel
theorem dX12_customs_19 : decode cX12_customs 19 = .ok (.iconst 0, 1) := by decide +kernel
theorem dX12_customs_20 : decode cX12_customs 20 = .ok (.bipush 8, 2) := by decide +kernel
theorem dX12_customs_22 : decode cX12_customs 22 = .ok (.invokevirtual 201, 3) := by decide +kernel
theorem dX12_customs_25 : decode cX12_customs 25 = .ok (.ifCond .ne 15, 3) := by decide +kernel
theorem dX12_customs_28 : decode cX12_customs 28 = .ok (.aload_n 0, 1) := by decide +kernel
theorem dX12_customs_29 : decode cX12_customs 29 = .ok (.iload_n 2, 1) := by decide +kernel
theorem dX12_customs_30 : decode cX12_customs 30 = .ok (.bipush 10, 2) := by decide +kernel
theorem dX12_customs_32 : decode cX12_customs 32 = .ok (.bipush 25, 2) := by decide +kernel
theorem dX12_customs_34 : decode cX12_customs 34 = .ok (.invokevirtual 201, 3) := by decide +kernel
theorem dX12_customs_37 : decode cX12_customs 37 = .ok (.ifCond .eq 15, 3) := by decide +kernel
theorem dX12_customs_40 : decode cX12_customs 40 = .ok (.aload_n 0, 1) := by decide +kernel
theorem dX12_customs_41 : decode cX12_customs 41 = .ok (.getfield 75, 3) := by decide +kernel
theorem dX12_customs_44 : decode cX12_customs 44 = .ok (.bipush 50, 2) := by decide +kernel
theorem dX12_customs_46 : decode cX12_customs 46 = .ok (.iload_n 1, 1) := by decide +kernel
theorem dX12_customs_47 : decode cX12_customs 47 = .ok (.imul, 1) := by decide +kernel
theorem dX12_customs_48 : decode cX12_customs 48 = .ok (.iload_n 2, 1) := by decide +kernel
theorem dX12_customs_49 : decode cX12_customs 49 = .ok (.iadd, 1) := by decide +kernel
theorem dX12_customs_50 : decode cX12_customs 50 = .ok (.iaload, 1) := by decide +kernel
theorem dX12_customs_51 : decode cX12_customs 51 = .ok (.ireturn, 1) := by decide +kernel
theorem dX12_customs_52 : decode cX12_customs 52 = .ok (.aload_n 0, 1) := by decide +kernel
theorem dX12_customs_53 : decode cX12_customs 53 = .ok (.iload_n 2, 1) := by decide +kernel
theorem dX12_customs_54 : decode cX12_customs 54 = .ok (.bipush 30, 2) := by decide +kernel
theorem dX12_customs_56 : decode cX12_customs 56 = .ok (.bipush 45, 2) := by decide +kernel
theorem dX12_customs_58 : decode cX12_customs 58 = .ok (.invokevirtual 201, 3) := by decide +kernel
theorem dX12_customs_61 : decode cX12_customs 61 = .ok (.ifCond .eq 31, 3) := by decide +kernel
theorem dX12_customs_64 : decode cX12_customs 64 = .ok (.aload_n 0, 1) := by decide +kernel
theorem dX12_customs_65 : decode cX12_customs 65 = .ok (.iload_n 1, 1) := by decide +kernel
theorem dX12_customs_66 : decode cX12_customs 66 = .ok (.iload_n 2, 1) := by decide +kernel
theorem dX12_customs_67 : decode cX12_customs 67 = .ok (.bipush 30, 2) := by decide +kernel
theorem dX12_customs_69 : decode cX12_customs 69 = .ok (.isub, 1) := by decide +kernel
theorem dX12_customs_70 : decode cX12_customs 70 = .ok (.iconst 4, 1) := by decide +kernel
theorem dX12_customs_71 : decode cX12_customs 71 = .ok (.idiv, 1) := by decide +kernel
theorem dX12_customs_72 : decode cX12_customs 72 = .ok (.iload_n 2, 1) := by decide +kernel
theorem dX12_customs_73 : decode cX12_customs 73 = .ok (.bipush 30, 2) := by decide +kernel
theorem dX12_customs_75 : decode cX12_customs 75 = .ok (.isub, 1) := by decide +kernel
theorem dX12_customs_76 : decode cX12_customs 76 = .ok (.iconst 4, 1) := by decide +kernel
theorem dX12_customs_77 : decode cX12_customs 77 = .ok (.irem, 1) := by decide +kernel
theorem dX12_customs_78 : decode cX12_customs 78 = .ok (.invokevirtual 283, 3) := by decide +kernel
theorem dX12_customs_81 : decode cX12_customs 81 = .ok (.ifCond .eq 7, 3) := by decide +kernel
theorem dX12_customs_84 : decode cX12_customs 84 = .ok (.iconst 1, 1) := by decide +kernel
theorem dX12_customs_85 : decode cX12_customs 85 = .ok (.goto 8, 3) := by decide +kernel
theorem dX12_customs_88 : decode cX12_customs 88 = .ok (.iconst 0, 1) := by decide +kernel
theorem dX12_customs_89 : decode cX12_customs 89 = .ok (.goto 4, 3) := by decide +kernel
theorem dX12_customs_92 : decode cX12_customs 92 = .ok (.iconst (-1), 1) := by decide +kernel
theorem dX12_customs_93 : decode cX12_customs 93 = .ok (.ireturn, 1) := by decide +kernel
theorem dX12_ringsSeen_0 : decode cX12_ringsSeen 0 = .ok (.iconst 0, 1) := by decide +kernel
theorem dX12_ringsSeen_1 : decode cX12_ringsSeen 1 = .ok (.istore_n 2, 1) := by decide +kernel
theorem dX12_ringsSeen_2 : decode cX12_ringsSeen 2 = .ok (.iload_n 2, 1) := by decide +kernel
theorem dX12_ringsSeen_3 : decode cX12_ringsSeen 3 = .ok (.aload_n 0, 1) := by decide +kernel
theorem dX12_ringsSeen_4 : decode cX12_ringsSeen 4 = .ok (.getfield 26, 3) := by decide +kernel
theorem dX12_ringsSeen_7 : decode cX12_ringsSeen 7 = .ok (.iload_n 1, 1) := by decide +kernel
theorem dX12_ringsSeen_8 : decode cX12_ringsSeen 8 = .ok (.iaload, 1) := by decide +kernel
theorem dX12_ringsSeen_9 : decode cX12_ringsSeen 9 = .ok (.if_icmp .ge 28, 3) := by decide +kernel
theorem dX12_ringsSeen_12 : decode cX12_ringsSeen 12 = .ok (.aload_n 0, 1) := by decide +kernel
theorem dX12_ringsSeen_13 : decode cX12_ringsSeen 13 = .ok (.aload_n 0, 1) := by decide +kernel
theorem dX12_ringsSeen_14 : decode cX12_ringsSeen 14 = .ok (.getfield 32, 3) := by decide +kernel
theorem dX12_ringsSeen_17 : decode cX12_ringsSeen 17 = .ok (.bipush 24, 2) := by decide +kernel
theorem dX12_ringsSeen_19 : decode cX12_ringsSeen 19 = .ok (.iload_n 1, 1) := by decide +kernel
theorem dX12_ringsSeen_20 : decode cX12_ringsSeen 20 = .ok (.imul, 1) := by decide +kernel
theorem dX12_ringsSeen_21 : decode cX12_ringsSeen 21 = .ok (.iload_n 2, 1) := by decide +kernel
theorem dX12_ringsSeen_22 : decode cX12_ringsSeen 22 = .ok (.iadd, 1) := by decide +kernel
theorem dX12_ringsSeen_23 : decode cX12_ringsSeen 23 = .ok (.iaload, 1) := by decide +kernel
theorem dX12_ringsSeen_24 : decode cX12_ringsSeen 24 = .ok (.invokevirtual 194, 3) := by decide +kernel
theorem dX12_ringsSeen_27 : decode cX12_ringsSeen 27 = .ok (.ifCond .eq 10, 3) := by decide +kernel
theorem dX12_ringsSeen_30 : decode cX12_ringsSeen 30 = .ok (.iload_n 2, 1) := by decide +kernel
theorem dX12_ringsSeen_31 : decode cX12_ringsSeen 31 = .ok (.iconst 1, 1) := by decide +kernel
theorem dX12_ringsSeen_32 : decode cX12_ringsSeen 32 = .ok (.iadd, 1) := by decide +kernel
theorem dX12_ringsSeen_33 : decode cX12_ringsSeen 33 = .ok (.istore_n 2, 1) := by decide +kernel
theorem dX12_ringsSeen_34 : decode cX12_ringsSeen 34 = .ok (.goto (-32), 3) := by decide +kernel
theorem dX12_ringsSeen_37 : decode cX12_ringsSeen 37 = .ok (.iload_n 2, 1) := by decide +kernel
theorem dX12_ringsSeen_38 : decode cX12_ringsSeen 38 = .ok (.ireturn, 1) := by decide +kernel
theorem dX12_jointsSeen_0 : decode cX12_jointsSeen 0 = .ok (.iconst 0, 1) := by decide +kernel
theorem dX12_jointsSeen_1 : decode cX12_jointsSeen 1 = .ok (.istore_n 2, 1) := by decide +kernel
theorem dX12_jointsSeen_2 : decode cX12_jointsSeen 2 = .ok (.iconst 0, 1) := by decide +kernel
theorem dX12_jointsSeen_3 : decode cX12_jointsSeen 3 = .ok (.istore_n 3, 1) := by decide +kernel
theorem dX12_jointsSeen_4 : decode cX12_jointsSeen 4 = .ok (.iload_n 3, 1) := by decide +kernel
theorem dX12_jointsSeen_5 : decode cX12_jointsSeen 5 = .ok (.aload_n 0, 1) := by decide +kernel
theorem dX12_jointsSeen_6 : decode cX12_jointsSeen 6 = .ok (.getfield 198, 3) := by decide +kernel
theorem dX12_jointsSeen_9 : decode cX12_jointsSeen 9 = .ok (.if_icmp .ge 31, 3) := by decide +kernel
theorem dX12_jointsSeen_12 : decode cX12_jointsSeen 12 = .ok (.aload_n 0, 1) := by decide +kernel
theorem dX12_jointsSeen_13 : decode cX12_jointsSeen 13 = .ok (.getfield 42, 3) := by decide +kernel
theorem dX12_jointsSeen_16 : decode cX12_jointsSeen 16 = .ok (.iload_n 3, 1) := by decide +kernel
theorem dX12_jointsSeen_17 : decode cX12_jointsSeen 17 = .ok (.iaload, 1) := by decide +kernel
theorem dX12_jointsSeen_18 : decode cX12_jointsSeen 18 = .ok (.iload_n 1, 1) := by decide +kernel
theorem dX12_jointsSeen_19 : decode cX12_jointsSeen 19 = .ok (.if_icmp .ne 15, 3) := by decide +kernel
theorem dX12_jointsSeen_22 : decode cX12_jointsSeen 22 = .ok (.aload_n 0, 1) := by decide +kernel
theorem dX12_jointsSeen_23 : decode cX12_jointsSeen 23 = .ok (.iload_n 3, 1) := by decide +kernel
theorem dX12_jointsSeen_24 : decode cX12_jointsSeen 24 = .ok (.invokevirtual 286, 3) := by decide +kernel
theorem dX12_jointsSeen_27 : decode cX12_jointsSeen 27 = .ok (.ifCond .eq 7, 3) := by decide +kernel
theorem dX12_jointsSeen_30 : decode cX12_jointsSeen 30 = .ok (.iload_n 2, 1) := by decide +kernel
theorem dX12_jointsSeen_31 : decode cX12_jointsSeen 31 = .ok (.iconst 1, 1) := by decide +kernel
theorem dX12_jointsSeen_32 : decode cX12_jointsSeen 32 = .ok (.iadd, 1) := by decide +kernel
theorem dX12_jointsSeen_33 : decode cX12_jointsSeen 33 = .ok (.istore_n 2, 1) := by decide +kernel
theorem dX12_jointsSeen_34 : decode cX12_jointsSeen 34 = .ok (.iinc 3 1, 3) := by decide +kernel
theorem dX12_jointsSeen_37 : decode cX12_jointsSeen 37 = .ok (.goto (-33), 3) := by decide +kernel
theorem dX12_jointsSeen_40 : decode cX12_jointsSeen 40 = .ok (.iload_n 2, 1) := by decide +kernel
theorem dX12_jointsSeen_41 : decode cX12_jointsSeen 41 = .ok (.ireturn, 1) := by decide +kernel
theorem dX12_of_0 : decode cX12_of 0 = .ok (.aload_n 0, 1) := by decide +kernel
theorem dX12_of_1 : decode cX12_of 1 = .ok (.iconst 0, 1) := by decide +kernel
theorem dX12_of_2 : decode cX12_of 2 = .ok (.putfield 188, 3) := by decide +kernel
theorem dX12_of_5 : decode cX12_of 5 = .ok (.aload_n 0, 1) := by decide +kernel
theorem dX12_of_6 : decode cX12_of 6 = .ok (.iload_n 1, 1) := by decide +kernel
theorem dX12_of_7 : decode cX12_of 7 = .ok (.invokevirtual 289, 3) := by decide +kernel
theorem dX12_of_10 : decode cX12_of 10 = .ok (.ifCond .ne 5, 3) := by decide +kernel
theorem dX12_of_13 : decode cX12_of 13 = .ok (.iconst (-1), 1) := by decide +kernel
theorem dX12_of_14 : decode cX12_of 14 = .ok (.ireturn, 1) := by decide +kernel
theorem dX12_of_15 : decode cX12_of 15 = .ok (.iload_n 2, 1) := by decide +kernel
theorem dX12_of_16 : decode cX12_of 16 = .ok (.ifCond .ne 10, 3) := by decide +kernel
theorem dX12_of_19 : decode cX12_of 19 = .ok (.aload_n 0, 1) := by decide +kernel
theorem dX12_of_20 : decode cX12_of 20 = .ok (.getfield 13, 3) := by decide +kernel
theorem dX12_of_23 : decode cX12_of 23 = .ok (.iload_n 1, 1) := by decide +kernel
theorem dX12_of_24 : decode cX12_of 24 = .ok (.iaload, 1) := by decide +kernel
theorem dX12_of_25 : decode cX12_of 25 = .ok (.ireturn, 1) := by decide +kernel
theorem dX12_of_26 : decode cX12_of 26 = .ok (.iload_n 2, 1) := by decide +kernel
theorem dX12_of_27 : decode cX12_of 27 = .ok (.iconst 1, 1) := by decide +kernel
theorem dX12_of_28 : decode cX12_of 28 = .ok (.if_icmp .ne 10, 3) := by decide +kernel
theorem dX12_of_31 : decode cX12_of 31 = .ok (.aload_n 0, 1) := by decide +kernel
theorem dX12_of_32 : decode cX12_of 32 = .ok (.getfield 17, 3) := by decide +kernel
theorem dX12_of_35 : decode cX12_of 35 = .ok (.iload_n 1, 1) := by decide +kernel
theorem dX12_of_36 : decode cX12_of 36 = .ok (.iaload, 1) := by decide +kernel
theorem dX12_of_37 : decode cX12_of 37 = .ok (.ireturn, 1) := by decide +kernel
theorem dX12_of_38 : decode cX12_of 38 = .ok (.iload_n 2, 1) := by decide +kernel
theorem dX12_of_39 : decode cX12_of 39 = .ok (.iconst 2, 1) := by decide +kernel
theorem dX12_of_40 : decode cX12_of 40 = .ok (.if_icmp .ne 9, 3) := by decide +kernel
theorem dX12_of_43 : decode cX12_of 43 = .ok (.aload_n 0, 1) := by decide +kernel
theorem dX12_of_44 : decode cX12_of 44 = .ok (.iload_n 1, 1) := by decide +kernel
theorem dX12_of_45 : decode cX12_of 45 = .ok (.invokevirtual 292, 3) := by decide +kernel
theorem dX12_of_48 : decode cX12_of 48 = .ok (.ireturn, 1) := by decide +kernel
theorem dX12_of_49 : decode cX12_of 49 = .ok (.iload_n 2, 1) := by decide +kernel
theorem dX12_of_50 : decode cX12_of 50 = .ok (.iconst 3, 1) := by decide +kernel
theorem dX12_of_51 : decode cX12_of 51 = .ok (.if_icmp .ne 9, 3) := by decide +kernel
theorem dX12_of_54 : decode cX12_of 54 = .ok (.aload_n 0, 1) := by decide +kernel
theorem dX12_of_55 : decode cX12_of 55 = .ok (.iload_n 1, 1) := by decide +kernel
theorem dX12_of_56 : decode cX12_of 56 = .ok (.invokevirtual 295, 3) := by decide +kernel
theorem dX12_of_59 : decode cX12_of 59 = .ok (.ireturn, 1) := by decide +kernel
theorem dX12_of_60 : decode cX12_of 60 = .ok (.iload_n 2, 1) := by decide +kernel
theorem dX12_of_61 : decode cX12_of 61 = .ok (.iconst 4, 1) := by decide +kernel
theorem dX12_of_62 : decode cX12_of 62 = .ok (.if_icmp .ne 10, 3) := by decide +kernel
theorem dX12_of_65 : decode cX12_of 65 = .ok (.aload_n 0, 1) := by decide +kernel
theorem dX12_of_66 : decode cX12_of 66 = .ok (.getfield 35, 3) := by decide +kernel
theorem dX12_of_69 : decode cX12_of 69 = .ok (.iload_n 1, 1) := by decide +kernel
theorem dX12_of_70 : decode cX12_of 70 = .ok (.iaload, 1) := by decide +kernel
theorem dX12_of_71 : decode cX12_of 71 = .ok (.ireturn, 1) := by decide +kernel
theorem dX12_of_72 : decode cX12_of 72 = .ok (.iload_n 2, 1) := by decide +kernel
theorem dX12_of_73 : decode cX12_of 73 = .ok (.iconst 5, 1) := by decide +kernel
theorem dX12_of_74 : decode cX12_of 74 = .ok (.if_icmp .ne 18, 3) := by decide +kernel
theorem dX12_of_77 : decode cX12_of 77 = .ok (.aload_n 0, 1) := by decide +kernel
theorem dX12_of_78 : decode cX12_of 78 = .ok (.getfield 38, 3) := by decide +kernel
theorem dX12_of_81 : decode cX12_of 81 = .ok (.iload_n 1, 1) := by decide +kernel
theorem dX12_of_82 : decode cX12_of 82 = .ok (.baload, 1) := by decide +kernel
theorem dX12_of_83 : decode cX12_of 83 = .ok (.ifCond .eq 7, 3) := by decide +kernel
theorem dX12_of_86 : decode cX12_of 86 = .ok (.iconst 1, 1) := by decide +kernel
theorem dX12_of_87 : decode cX12_of 87 = .ok (.goto 4, 3) := by decide +kernel
theorem dX12_of_90 : decode cX12_of 90 = .ok (.iconst 0, 1) := by decide +kernel
theorem dX12_of_91 : decode cX12_of 91 = .ok (.ireturn, 1) := by decide +kernel
theorem dX12_of_92 : decode cX12_of 92 = .ok (.iload_n 2, 1) := by decide +kernel
theorem dX12_of_93 : decode cX12_of 93 = .ok (.bipush 6, 2) := by decide +kernel
theorem dX12_of_95 : decode cX12_of 95 = .ok (.if_icmp .ne 12, 3) := by decide +kernel
theorem dX12_of_98 : decode cX12_of 98 = .ok (.aload_n 0, 1) := by decide +kernel
theorem dX12_of_99 : decode cX12_of 99 = .ok (.getfield 20, 3) := by decide +kernel
theorem dX12_of_102 : decode cX12_of 102 = .ok (.iload_n 1, 1) := by decide +kernel
theorem dX12_of_103 : decode cX12_of 103 = .ok (.iaload, 1) := by decide +kernel
theorem dX12_of_104 : decode cX12_of 104 = .ok (.goto 4, 3) := by decide +kernel
theorem dX12_of_107 : decode cX12_of 107 = .ok (.iconst (-1), 1) := by decide +kernel
theorem dX12_of_108 : decode cX12_of 108 = .ok (.ireturn, 1) := by decide +kernel
theorem dX12_at_0 : decode cX12_at 0 = .ok (.aload_n 0, 1) := by decide +kernel
theorem dX12_at_1 : decode cX12_at 1 = .ok (.iconst 0, 1) := by decide +kernel
theorem dX12_at_2 : decode cX12_at 2 = .ok (.putfield 188, 3) := by decide +kernel
theorem dX12_at_5 : decode cX12_at 5 = .ok (.aload_n 0, 1) := by decide +kernel
theorem dX12_at_6 : decode cX12_at 6 = .ok (.iload_n 1, 1) := by decide +kernel
theorem dX12_at_7 : decode cX12_at 7 = .ok (.invokevirtual 286, 3) := by decide +kernel
theorem dX12_at_10 : decode cX12_at 10 = .ok (.ifCond .ne 5, 3) := by decide +kernel
theorem dX12_at_13 : decode cX12_at 13 = .ok (.iconst (-1), 1) := by decide +kernel
theorem dX12_at_14 : decode cX12_at 14 = .ok (.ireturn, 1) := by decide +kernel
theorem dX12_at_15 : decode cX12_at 15 = .ok (.iload_n 2, 1) := by decide +kernel
theorem dX12_at_16 : decode cX12_at 16 = .ok (.ifCond .ne 10, 3) := by decide +kernel
theorem dX12_at_19 : decode cX12_at 19 = .ok (.aload_n 0, 1) := by decide +kernel
theorem dX12_at_20 : decode cX12_at 20 = .ok (.getfield 42, 3) := by decide +kernel
theorem dX12_at_23 : decode cX12_at 23 = .ok (.iload_n 1, 1) := by decide +kernel
theorem dX12_at_24 : decode cX12_at 24 = .ok (.iaload, 1) := by decide +kernel
theorem dX12_at_25 : decode cX12_at 25 = .ok (.ireturn, 1) := by decide +kernel
theorem dX12_at_26 : decode cX12_at 26 = .ok (.iload_n 2, 1) := by decide +kernel
theorem dX12_at_27 : decode cX12_at 27 = .ok (.iconst 1, 1) := by decide +kernel
theorem dX12_at_28 : decode cX12_at 28 = .ok (.if_icmp .ne 10, 3) := by decide +kernel
theorem dX12_at_31 : decode cX12_at 31 = .ok (.aload_n 0, 1) := by decide +kernel
theorem dX12_at_32 : decode cX12_at 32 = .ok (.getfield 45, 3) := by decide +kernel
theorem dX12_at_35 : decode cX12_at 35 = .ok (.iload_n 1, 1) := by decide +kernel
theorem dX12_at_36 : decode cX12_at 36 = .ok (.iaload, 1) := by decide +kernel
theorem dX12_at_37 : decode cX12_at 37 = .ok (.ireturn, 1) := by decide +kernel
theorem dX12_at_38 : decode cX12_at 38 = .ok (.iload_n 2, 1) := by decide +kernel
theorem dX12_at_39 : decode cX12_at 39 = .ok (.iconst 2, 1) := by decide +kernel
theorem dX12_at_40 : decode cX12_at 40 = .ok (.if_icmp .ne 10, 3) := by decide +kernel
theorem dX12_at_43 : decode cX12_at 43 = .ok (.aload_n 0, 1) := by decide +kernel
theorem dX12_at_44 : decode cX12_at 44 = .ok (.getfield 48, 3) := by decide +kernel
theorem dX12_at_47 : decode cX12_at 47 = .ok (.iload_n 1, 1) := by decide +kernel
theorem dX12_at_48 : decode cX12_at 48 = .ok (.iaload, 1) := by decide +kernel
theorem dX12_at_49 : decode cX12_at 49 = .ok (.ireturn, 1) := by decide +kernel
theorem dX12_at_50 : decode cX12_at 50 = .ok (.iload_n 2, 1) := by decide +kernel
theorem dX12_at_51 : decode cX12_at 51 = .ok (.iconst 3, 1) := by decide +kernel
theorem dX12_at_52 : decode cX12_at 52 = .ok (.if_icmp .ne 10, 3) := by decide +kernel
theorem dX12_at_55 : decode cX12_at 55 = .ok (.aload_n 0, 1) := by decide +kernel
theorem dX12_at_56 : decode cX12_at 56 = .ok (.getfield 51, 3) := by decide +kernel
theorem dX12_at_59 : decode cX12_at 59 = .ok (.iload_n 1, 1) := by decide +kernel
theorem dX12_at_60 : decode cX12_at 60 = .ok (.iaload, 1) := by decide +kernel
theorem dX12_at_61 : decode cX12_at 61 = .ok (.ireturn, 1) := by decide +kernel
theorem dX12_at_62 : decode cX12_at 62 = .ok (.iload_n 2, 1) := by decide +kernel
theorem dX12_at_63 : decode cX12_at 63 = .ok (.iconst 4, 1) := by decide +kernel
theorem dX12_at_64 : decode cX12_at 64 = .ok (.if_icmp .ne 9, 3) := by decide +kernel
theorem dX12_at_67 : decode cX12_at 67 = .ok (.aload_n 0, 1) := by decide +kernel
theorem dX12_at_68 : decode cX12_at 68 = .ok (.iload_n 1, 1) := by decide +kernel
theorem dX12_at_69 : decode cX12_at 69 = .ok (.invokevirtual 298, 3) := by decide +kernel
theorem dX12_at_72 : decode cX12_at 72 = .ok (.ireturn, 1) := by decide +kernel
theorem dX12_at_73 : decode cX12_at 73 = .ok (.iload_n 2, 1) := by decide +kernel
theorem dX12_at_74 : decode cX12_at 74 = .ok (.iconst 5, 1) := by decide +kernel
theorem dX12_at_75 : decode cX12_at 75 = .ok (.if_icmp .ne 9, 3) := by decide +kernel
theorem dX12_at_78 : decode cX12_at 78 = .ok (.aload_n 0, 1) := by decide +kernel
theorem dX12_at_79 : decode cX12_at 79 = .ok (.iload_n 1, 1) := by decide +kernel
theorem dX12_at_80 : decode cX12_at 80 = .ok (.invokevirtual 301, 3) := by decide +kernel
theorem dX12_at_83 : decode cX12_at 83 = .ok (.ireturn, 1) := by decide +kernel
theorem dX12_at_84 : decode cX12_at 84 = .ok (.aload_n 0, 1) := by decide +kernel
theorem dX12_at_85 : decode cX12_at 85 = .ok (.iload_n 2, 1) := by decide +kernel
theorem dX12_at_86 : decode cX12_at 86 = .ok (.bipush 10, 2) := by decide +kernel
theorem dX12_at_88 : decode cX12_at 88 = .ok (.bipush 9, 2) := by decide +kernel
theorem dX12_at_90 : decode cX12_at 90 = .ok (.aload_n 0, 1) := by decide +kernel
theorem dX12_at_91 : decode cX12_at 91 = .ok (.iload_n 1, 1) := by decide +kernel
theorem dX12_at_92 : decode cX12_at 92 = .ok (.invokevirtual 298, 3) := by decide +kernel
theorem dX12_at_95 : decode cX12_at 95 = .ok (.iadd, 1) := by decide +kernel
theorem dX12_at_96 : decode cX12_at 96 = .ok (.invokevirtual 201, 3) := by decide +kernel
theorem dX12_at_99 : decode cX12_at 99 = .ok (.ifCond .eq 24, 3) := by decide +kernel
theorem dX12_at_102 : decode cX12_at 102 = .ok (.aload_n 0, 1) := by decide +kernel
theorem dX12_at_103 : decode cX12_at 103 = .ok (.getfield 69, 3) := by decide +kernel
theorem dX12_at_106 : decode cX12_at 106 = .ok (.bipush 6, 2) := by decide +kernel
theorem dX12_at_108 : decode cX12_at 108 = .ok (.aload_n 0, 1) := by decide +kernel
theorem dX12_at_109 : decode cX12_at 109 = .ok (.iload_n 1, 1) := by decide +kernel
theorem dX12_at_110 : decode cX12_at 110 = .ok (.invokevirtual 221, 3) := by decide +kernel
theorem dX12_at_113 : decode cX12_at 113 = .ok (.imul, 1) := by decide +kernel
theorem dX12_at_114 : decode cX12_at 114 = .ok (.iload_n 2, 1) := by decide +kernel
theorem dX12_at_115 : decode cX12_at 115 = .ok (.iadd, 1) := by decide +kernel
theorem dX12_at_116 : decode cX12_at 116 = .ok (.bipush 10, 2) := by decide +kernel
theorem dX12_at_118 : decode cX12_at 118 = .ok (.isub, 1) := by decide +kernel
theorem dX12_at_119 : decode cX12_at 119 = .ok (.iaload, 1) := by decide +kernel
theorem dX12_at_120 : decode cX12_at 120 = .ok (.goto 4, 3) := by decide +kernel
theorem dX12_at_123 : decode cX12_at 123 = .ok (.iconst (-1), 1) := by decide +kernel
theorem dX12_at_124 : decode cX12_at 124 = .ok (.ireturn, 1) := by decide +kernel
theorem dX12_adds_0 : decode cX12_adds 0 = .ok (.iconst 0, 1) := by decide +kernel
theorem dX12_adds_1 : decode cX12_adds 1 = .ok (.istore_n 3, 1) := by decide +kernel
theorem dX12_adds_2 : decode cX12_adds 2 = .ok (.iload_n 3, 1) := by decide +kernel
theorem dX12_adds_3 : decode cX12_adds 3 = .ok (.iload_n 2, 1) := by decide +kernel
theorem dX12_adds_4 : decode cX12_adds 4 = .ok (.if_icmp .ge 29, 3) := by decide +kernel
theorem dX12_adds_7 : decode cX12_adds 7 = .ok (.aload_n 0, 1) := by decide +kernel
theorem dX12_adds_8 : decode cX12_adds 8 = .ok (.getfield 84, 3) := by decide +kernel
theorem dX12_adds_11 : decode cX12_adds 11 = .ok (.aload_n 0, 1) := by decide +kernel
theorem dX12_adds_12 : decode cX12_adds 12 = .ok (.getfield 304, 3) := by decide +kernel
theorem dX12_adds_15 : decode cX12_adds 15 = .ok (.iload_n 1, 1) := by decide +kernel
theorem dX12_adds_16 : decode cX12_adds 16 = .ok (.iastore, 1) := by decide +kernel
theorem dX12_adds_17 : decode cX12_adds 17 = .ok (.aload_n 0, 1) := by decide +kernel
theorem dX12_adds_18 : decode cX12_adds 18 = .ok (.aload_n 0, 1) := by decide +kernel
theorem dX12_adds_19 : decode cX12_adds 19 = .ok (.getfield 304, 3) := by decide +kernel
theorem dX12_adds_22 : decode cX12_adds 22 = .ok (.iconst 1, 1) := by decide +kernel
theorem dX12_adds_23 : decode cX12_adds 23 = .ok (.iadd, 1) := by decide +kernel
theorem dX12_adds_24 : decode cX12_adds 24 = .ok (.putfield 304, 3) := by decide +kernel
theorem dX12_adds_27 : decode cX12_adds 27 = .ok (.iinc 3 1, 3) := by decide +kernel
theorem dX12_adds_30 : decode cX12_adds 30 = .ok (.goto (-28), 3) := by decide +kernel
theorem dX12_adds_33 : decode cX12_adds 33 = .ok (.return_, 1) := by decide +kernel
theorem dX12_writes_0 : decode cX12_writes 0 = .ok (.aload_n 0, 1) := by decide +kernel
theorem dX12_writes_1 : decode cX12_writes 1 = .ok (.iconst 0, 1) := by decide +kernel
theorem dX12_writes_2 : decode cX12_writes 2 = .ok (.putfield 304, 3) := by decide +kernel
theorem dX12_writes_5 : decode cX12_writes 5 = .ok (.aload_n 0, 1) := by decide +kernel
theorem dX12_writes_6 : decode cX12_writes 6 = .ok (.bipush 88, 2) := by decide +kernel
theorem dX12_writes_8 : decode cX12_writes 8 = .ok (.iload_n 1, 1) := by decide +kernel
theorem dX12_writes_9 : decode cX12_writes 9 = .ok (.bipush 10, 2) := by decide +kernel
theorem dX12_writes_11 : decode cX12_writes 11 = .ok (.idiv, 1) := by decide +kernel
theorem dX12_writes_12 : decode cX12_writes 12 = .ok (.invokevirtual 307, 3) := by decide +kernel
theorem dX12_writes_15 : decode cX12_writes 15 = .ok (.iload_n 1, 1) := by decide +kernel
theorem dX12_writes_16 : decode cX12_writes 16 = .ok (.bipush 10, 2) := by decide +kernel
theorem dX12_writes_18 : decode cX12_writes 18 = .ok (.irem, 1) := by decide +kernel
theorem dX12_writes_19 : decode cX12_writes 19 = .ok (.istore_n 3, 1) := by decide +kernel
theorem dX12_writes_20 : decode cX12_writes 20 = .ok (.iload_n 2, 1) := by decide +kernel
theorem dX12_writes_21 : decode cX12_writes 21 = .ok (.ifCond .eq 39, 3) := by decide +kernel
theorem dX12_writes_24 : decode cX12_writes 24 = .ok (.iload_n 3, 1) := by decide +kernel
theorem dX12_writes_25 : decode cX12_writes 25 = .ok (.iconst 4, 1) := by decide +kernel
theorem dX12_writes_26 : decode cX12_writes 26 = .ok (.if_icmp .eq 9, 3) := by decide +kernel
theorem dX12_writes_29 : decode cX12_writes 29 = .ok (.iload_n 3, 1) := by decide +kernel
theorem dX12_writes_30 : decode cX12_writes 30 = .ok (.bipush 9, 2) := by decide +kernel
theorem dX12_writes_32 : decode cX12_writes 32 = .ok (.if_icmp .ne 28, 3) := by decide +kernel
theorem dX12_writes_35 : decode cX12_writes 35 = .ok (.aload_n 0, 1) := by decide +kernel
theorem dX12_writes_36 : decode cX12_writes 36 = .ok (.bipush 73, 2) := by decide +kernel
theorem dX12_writes_38 : decode cX12_writes 38 = .ok (.iconst 1, 1) := by decide +kernel
theorem dX12_writes_39 : decode cX12_writes 39 = .ok (.invokevirtual 307, 3) := by decide +kernel
theorem dX12_writes_42 : decode cX12_writes 42 = .ok (.aload_n 0, 1) := by decide +kernel
theorem dX12_writes_43 : decode cX12_writes 43 = .ok (.iload_n 3, 1) := by decide +kernel
theorem dX12_writes_44 : decode cX12_writes 44 = .ok (.iconst 4, 1) := by decide +kernel
theorem dX12_writes_45 : decode cX12_writes 45 = .ok (.if_icmp .ne 8, 3) := by decide +kernel
theorem dX12_writes_48 : decode cX12_writes 48 = .ok (.bipush 86, 2) := by decide +kernel
theorem dX12_writes_50 : decode cX12_writes 50 = .ok (.goto 5, 3) := by decide +kernel
theorem dX12_writes_53 : decode cX12_writes 53 = .ok (.bipush 88, 2) := by decide +kernel
theorem dX12_writes_55 : decode cX12_writes 55 = .ok (.iconst 1, 1) := by decide +kernel
theorem dX12_writes_56 : decode cX12_writes 56 = .ok (.invokevirtual 307, 3) := by decide +kernel
theorem dX12_writes_59 : decode cX12_writes 59 = .ok (.return_, 1) := by decide +kernel
theorem dX12_writes_60 : decode cX12_writes 60 = .ok (.aload_n 0, 1) := by decide +kernel
theorem dX12_writes_61 : decode cX12_writes 61 = .ok (.bipush 86, 2) := by decide +kernel
theorem dX12_writes_63 : decode cX12_writes 63 = .ok (.iload_n 3, 1) := by decide +kernel
theorem dX12_writes_64 : decode cX12_writes 64 = .ok (.iconst 5, 1) := by decide +kernel
theorem dX12_writes_65 : decode cX12_writes 65 = .ok (.idiv, 1) := by decide +kernel
theorem dX12_writes_66 : decode cX12_writes 66 = .ok (.invokevirtual 307, 3) := by decide +kernel
theorem dX12_writes_69 : decode cX12_writes 69 = .ok (.aload_n 0, 1) := by decide +kernel
theorem dX12_writes_70 : decode cX12_writes 70 = .ok (.bipush 73, 2) := by decide +kernel
theorem dX12_writes_72 : decode cX12_writes 72 = .ok (.iload_n 3, 1) := by decide +kernel
theorem dX12_writes_73 : decode cX12_writes 73 = .ok (.iconst 5, 1) := by decide +kernel
theorem dX12_writes_74 : decode cX12_writes 74 = .ok (.irem, 1) := by decide +kernel
theorem dX12_writes_75 : decode cX12_writes 75 = .ok (.invokevirtual 307, 3) := by decide +kernel
theorem dX12_writes_78 : decode cX12_writes 78 = .ok (.return_, 1) := by decide +kernel
theorem dX12_isForm_0 : decode cX12_isForm 0 = .ok (.aload_n 0, 1) := by decide +kernel
theorem dX12_isForm_1 : decode cX12_isForm 1 = .ok (.getfield 304, 3) := by decide +kernel
theorem dX12_isForm_4 : decode cX12_isForm 4 = .ok (.aload_n 0, 1) := by decide +kernel
theorem dX12_isForm_5 : decode cX12_isForm 5 = .ok (.getfield 63, 3) := by decide +kernel
theorem dX12_isForm_8 : decode cX12_isForm 8 = .ok (.iload_n 1, 1) := by decide +kernel
theorem dX12_isForm_9 : decode cX12_isForm 9 = .ok (.iaload, 1) := by decide +kernel
theorem dX12_isForm_10 : decode cX12_isForm 10 = .ok (.if_icmp .eq 5, 3) := by decide +kernel
theorem dX12_isForm_13 : decode cX12_isForm 13 = .ok (.iconst 0, 1) := by decide +kernel
theorem dX12_isForm_14 : decode cX12_isForm 14 = .ok (.ireturn, 1) := by decide +kernel
theorem dX12_isForm_15 : decode cX12_isForm 15 = .ok (.iconst 0, 1) := by decide +kernel
theorem dX12_isForm_16 : decode cX12_isForm 16 = .ok (.istore_n 3, 1) := by decide +kernel
theorem dX12_isForm_17 : decode cX12_isForm 17 = .ok (.iload_n 3, 1) := by decide +kernel
theorem dX12_isForm_18 : decode cX12_isForm 18 = .ok (.aload_n 0, 1) := by decide +kernel
theorem dX12_isForm_19 : decode cX12_isForm 19 = .ok (.getfield 304, 3) := by decide +kernel
theorem dX12_isForm_22 : decode cX12_isForm 22 = .ok (.if_icmp .ge 57, 3) := by decide +kernel
theorem dX12_isForm_25 : decode cX12_isForm 25 = .ok (.aload_n 0, 1) := by decide +kernel
theorem dX12_isForm_26 : decode cX12_isForm 26 = .ok (.getfield 69, 3) := by decide +kernel
theorem dX12_isForm_29 : decode cX12_isForm 29 = .ok (.bipush 6, 2) := by decide +kernel
theorem dX12_isForm_31 : decode cX12_isForm 31 = .ok (.iload_n 1, 1) := by decide +kernel
theorem dX12_isForm_32 : decode cX12_isForm 32 = .ok (.imul, 1) := by decide +kernel
theorem dX12_isForm_33 : decode cX12_isForm 33 = .ok (.iload_n 2, 1) := by decide +kernel
theorem dX12_isForm_34 : decode cX12_isForm 34 = .ok (.ifCond .eq 14, 3) := by decide +kernel
theorem dX12_isForm_37 : decode cX12_isForm 37 = .ok (.aload_n 0, 1) := by decide +kernel
theorem dX12_isForm_38 : decode cX12_isForm 38 = .ok (.getfield 304, 3) := by decide +kernel
theorem dX12_isForm_41 : decode cX12_isForm 41 = .ok (.iconst 1, 1) := by decide +kernel
theorem dX12_isForm_42 : decode cX12_isForm 42 = .ok (.isub, 1) := by decide +kernel
theorem dX12_isForm_43 : decode cX12_isForm 43 = .ok (.iload_n 3, 1) := by decide +kernel
theorem dX12_isForm_44 : decode cX12_isForm 44 = .ok (.isub, 1) := by decide +kernel
theorem dX12_isForm_45 : decode cX12_isForm 45 = .ok (.goto 4, 3) := by decide +kernel
theorem dX12_isForm_48 : decode cX12_isForm 48 = .ok (.iload_n 3, 1) := by decide +kernel
theorem dX12_isForm_49 : decode cX12_isForm 49 = .ok (.iadd, 1) := by decide +kernel
theorem dX12_isForm_50 : decode cX12_isForm 50 = .ok (.iaload, 1) := by decide +kernel
theorem dX12_isForm_51 : decode cX12_isForm 51 = .ok (.istore 4, 2) := by decide +kernel
theorem dX12_isForm_53 : decode cX12_isForm 53 = .ok (.iload 4, 2) := by decide +kernel
theorem dX12_isForm_55 : decode cX12_isForm 55 = .ok (.bipush 63, 2) := by decide +kernel
theorem dX12_isForm_57 : decode cX12_isForm 57 = .ok (.if_icmp .eq 16, 3) := by decide +kernel
theorem dX12_isForm_60 : decode cX12_isForm 60 = .ok (.iload 4, 2) := by decide +kernel
theorem dX12_isForm_62 : decode cX12_isForm 62 = .ok (.aload_n 0, 1) := by decide +kernel
theorem dX12_isForm_63 : decode cX12_isForm 63 = .ok (.getfield 84, 3) := by decide +kernel
theorem dX12_isForm_66 : decode cX12_isForm 66 = .ok (.iload_n 3, 1) := by decide +kernel
theorem dX12_isForm_67 : decode cX12_isForm 67 = .ok (.iaload, 1) := by decide +kernel
theorem dX12_isForm_68 : decode cX12_isForm 68 = .ok (.if_icmp .eq 5, 3) := by decide +kernel
theorem dX12_isForm_71 : decode cX12_isForm 71 = .ok (.iconst 0, 1) := by decide +kernel
theorem dX12_isForm_72 : decode cX12_isForm 72 = .ok (.ireturn, 1) := by decide +kernel
theorem dX12_isForm_73 : decode cX12_isForm 73 = .ok (.iinc 3 1, 3) := by decide +kernel
theorem dX12_isForm_76 : decode cX12_isForm 76 = .ok (.goto (-59), 3) := by decide +kernel
theorem dX12_isForm_79 : decode cX12_isForm 79 = .ok (.iconst 1, 1) := by decide +kernel
theorem dX12_isForm_80 : decode cX12_isForm 80 = .ok (.ireturn, 1) := by decide +kernel
theorem dX12_isNumber_0 : decode cX12_isNumber 0 = .ok (.iconst 0, 1) := by decide +kernel
theorem dX12_isNumber_1 : decode cX12_isNumber 1 = .ok (.istore 4, 2) := by decide +kernel
theorem dX12_isNumber_3 : decode cX12_isNumber 3 = .ok (.iload 4, 2) := by decide +kernel
theorem dX12_isNumber_5 : decode cX12_isNumber 5 = .ok (.iconst 4, 1) := by decide +kernel
theorem dX12_isNumber_6 : decode cX12_isNumber 6 = .ok (.if_icmp .ge 100, 3) := by decide +kernel
theorem dX12_isNumber_9 : decode cX12_isNumber 9 = .ok (.iload 4, 2) := by decide +kernel
theorem dX12_isNumber_11 : decode cX12_isNumber 11 = .ok (.iconst 2, 1) := by decide +kernel
theorem dX12_isNumber_12 : decode cX12_isNumber 12 = .ok (.irem, 1) := by decide +kernel
theorem dX12_isNumber_13 : decode cX12_isNumber 13 = .ok (.iconst 1, 1) := by decide +kernel
theorem dX12_isNumber_14 : decode cX12_isNumber 14 = .ok (.if_icmp .ne 7, 3) := by decide +kernel
theorem dX12_isNumber_17 : decode cX12_isNumber 17 = .ok (.iconst 1, 1) := by decide +kernel
theorem dX12_isNumber_18 : decode cX12_isNumber 18 = .ok (.goto 4, 3) := by decide +kernel
theorem dX12_isNumber_21 : decode cX12_isNumber 21 = .ok (.iconst 0, 1) := by decide +kernel
theorem dX12_isNumber_22 : decode cX12_isNumber 22 = .ok (.istore 5, 2) := by decide +kernel
theorem dX12_isNumber_24 : decode cX12_isNumber 24 = .ok (.iload 4, 2) := by decide +kernel
theorem dX12_isNumber_26 : decode cX12_isNumber 26 = .ok (.iconst 1, 1) := by decide +kernel
theorem dX12_isNumber_27 : decode cX12_isNumber 27 = .ok (.if_icmp .le 7, 3) := by decide +kernel
theorem dX12_isNumber_30 : decode cX12_isNumber 30 = .ok (.iconst 1, 1) := by decide +kernel
theorem dX12_isNumber_31 : decode cX12_isNumber 31 = .ok (.goto 4, 3) := by decide +kernel
theorem dX12_isNumber_34 : decode cX12_isNumber 34 = .ok (.iconst 0, 1) := by decide +kernel
theorem dX12_isNumber_35 : decode cX12_isNumber 35 = .ok (.istore 6, 2) := by decide +kernel
theorem dX12_isNumber_37 : decode cX12_isNumber 37 = .ok (.iload 6, 2) := by decide +kernel
theorem dX12_isNumber_39 : decode cX12_isNumber 39 = .ok (.ifCond .eq 17, 3) := by decide +kernel
theorem dX12_isNumber_42 : decode cX12_isNumber 42 = .ok (.aload_n 0, 1) := by decide +kernel
theorem dX12_isNumber_43 : decode cX12_isNumber 43 = .ok (.getfield 75, 3) := by decide +kernel
theorem dX12_isNumber_46 : decode cX12_isNumber 46 = .ok (.bipush 50, 2) := by decide +kernel
theorem dX12_isNumber_48 : decode cX12_isNumber 48 = .ok (.iload_n 1, 1) := by decide +kernel
theorem dX12_isNumber_49 : decode cX12_isNumber 49 = .ok (.imul, 1) := by decide +kernel
theorem dX12_isNumber_50 : decode cX12_isNumber 50 = .ok (.iconst 1, 1) := by decide +kernel
theorem dX12_isNumber_51 : decode cX12_isNumber 51 = .ok (.iadd, 1) := by decide +kernel
theorem dX12_isNumber_52 : decode cX12_isNumber 52 = .ok (.iaload, 1) := by decide +kernel
theorem dX12_isNumber_53 : decode cX12_isNumber 53 = .ok (.ifCond .eq 47, 3) := by decide +kernel
theorem dX12_isNumber_56 : decode cX12_isNumber 56 = .ok (.aload_n 0, 1) := by decide +kernel
theorem dX12_isNumber_57 : decode cX12_isNumber 57 = .ok (.getfield 75, 3) := by decide +kernel
theorem dX12_isNumber_60 : decode cX12_isNumber 60 = .ok (.bipush 50, 2) := by decide +kernel
theorem dX12_isNumber_62 : decode cX12_isNumber 62 = .ok (.iload_n 1, 1) := by decide +kernel
theorem dX12_isNumber_63 : decode cX12_isNumber 63 = .ok (.imul, 1) := by decide +kernel
theorem dX12_isNumber_64 : decode cX12_isNumber 64 = .ok (.iaload, 1) := by decide +kernel
theorem dX12_isNumber_65 : decode cX12_isNumber 65 = .ok (.iload 5, 2) := by decide +kernel
theorem dX12_isNumber_67 : decode cX12_isNumber 67 = .ok (.ifCond .eq 7, 3) := by decide +kernel
theorem dX12_isNumber_70 : decode cX12_isNumber 70 = .ok (.iconst 1, 1) := by decide +kernel
theorem dX12_isNumber_71 : decode cX12_isNumber 71 = .ok (.goto 4, 3) := by decide +kernel
theorem dX12_isNumber_74 : decode cX12_isNumber 74 = .ok (.iconst 2, 1) := by decide +kernel
theorem dX12_isNumber_75 : decode cX12_isNumber 75 = .ok (.if_icmp .ne 6, 3) := by decide +kernel
theorem dX12_isNumber_78 : decode cX12_isNumber 78 = .ok (.goto 22, 3) := by decide +kernel
theorem dX12_isNumber_81 : decode cX12_isNumber 81 = .ok (.aload_n 0, 1) := by decide +kernel
theorem dX12_isNumber_82 : decode cX12_isNumber 82 = .ok (.iload_n 3, 1) := by decide +kernel
theorem dX12_isNumber_83 : decode cX12_isNumber 83 = .ok (.iload 5, 2) := by decide +kernel
theorem dX12_isNumber_85 : decode cX12_isNumber 85 = .ok (.invokevirtual 311, 3) := by decide +kernel
theorem dX12_isNumber_88 : decode cX12_isNumber 88 = .ok (.aload_n 0, 1) := by decide +kernel
theorem dX12_isNumber_89 : decode cX12_isNumber 89 = .ok (.iload_n 2, 1) := by decide +kernel
theorem dX12_isNumber_90 : decode cX12_isNumber 90 = .ok (.iload 6, 2) := by decide +kernel
theorem dX12_isNumber_92 : decode cX12_isNumber 92 = .ok (.invokevirtual 315, 3) := by decide +kernel
theorem dX12_isNumber_95 : decode cX12_isNumber 95 = .ok (.ifCond .eq 5, 3) := by decide +kernel
theorem dX12_isNumber_98 : decode cX12_isNumber 98 = .ok (.iconst 1, 1) := by decide +kernel
theorem dX12_isNumber_99 : decode cX12_isNumber 99 = .ok (.ireturn, 1) := by decide +kernel
theorem dX12_isNumber_100 : decode cX12_isNumber 100 = .ok (.iinc 4 1, 3) := by decide +kernel
theorem dX12_isNumber_103 : decode cX12_isNumber 103 = .ok (.goto (-100), 3) := by decide +kernel
theorem dX12_isNumber_106 : decode cX12_isNumber 106 = .ok (.iconst 0, 1) := by decide +kernel
theorem dX12_isNumber_107 : decode cX12_isNumber 107 = .ok (.ireturn, 1) := by decide +kernel
theorem dX12_numbers_0 : decode cX12_numbers 0 = .ok (.aload_n 0, 1) := by decide +kernel
theorem dX12_numbers_1 : decode cX12_numbers 1 = .ok (.iload_n 2, 1) := by decide +kernel
theorem dX12_numbers_2 : decode cX12_numbers 2 = .ok (.invokevirtual 221, 3) := by decide +kernel
theorem dX12_numbers_5 : decode cX12_numbers 5 = .ok (.istore_n 3, 1) := by decide +kernel
theorem dX12_numbers_6 : decode cX12_numbers 6 = .ok (.lconst 0, 1) := by decide +kernel
theorem dX12_numbers_7 : decode cX12_numbers 7 = .ok (.lstore 4, 2) := by decide +kernel
theorem dX12_numbers_9 : decode cX12_numbers 9 = .ok (.iconst 1, 1) := by decide +kernel
theorem dX12_numbers_10 : decode cX12_numbers 10 = .ok (.istore 6, 2) := by decide +kernel
theorem dX12_numbers_12 : decode cX12_numbers 12 = .ok (.iload 6, 2) := by decide +kernel
theorem dX12_numbers_14 : decode cX12_numbers 14 = .ok (.bipush 40, 2) := by decide +kernel
theorem dX12_numbers_16 : decode cX12_numbers 16 = .ok (.if_icmp .ge 43, 3) := by decide +kernel
theorem dX12_numbers_19 : decode cX12_numbers 19 = .ok (.iload_n 3, 1) := by decide +kernel
theorem dX12_numbers_20 : decode cX12_numbers 20 = .ok (.iconst (-1), 1) := by decide +kernel
theorem dX12_numbers_21 : decode cX12_numbers 21 = .ok (.if_icmp .eq 23, 3) := by decide +kernel
theorem dX12_numbers_24 : decode cX12_numbers 24 = .ok (.aload_n 0, 1) := by decide +kernel
theorem dX12_numbers_25 : decode cX12_numbers 25 = .ok (.getfield 63, 3) := by decide +kernel
theorem dX12_numbers_28 : decode cX12_numbers 28 = .ok (.iload_n 3, 1) := by decide +kernel
theorem dX12_numbers_29 : decode cX12_numbers 29 = .ok (.iaload, 1) := by decide +kernel
theorem dX12_numbers_30 : decode cX12_numbers 30 = .ok (.ifCond .eq 14, 3) := by decide +kernel
theorem dX12_numbers_33 : decode cX12_numbers 33 = .ok (.aload_n 0, 1) := by decide +kernel
theorem dX12_numbers_34 : decode cX12_numbers 34 = .ok (.iload_n 1, 1) := by decide +kernel
theorem dX12_numbers_35 : decode cX12_numbers 35 = .ok (.iload_n 3, 1) := by decide +kernel
theorem dX12_numbers_36 : decode cX12_numbers 36 = .ok (.iload 6, 2) := by decide +kernel
theorem dX12_numbers_38 : decode cX12_numbers 38 = .ok (.invokevirtual 319, 3) := by decide +kernel
theorem dX12_numbers_41 : decode cX12_numbers 41 = .ok (.ifCond .eq 12, 3) := by decide +kernel
theorem dX12_numbers_44 : decode cX12_numbers 44 = .ok (.lload 4, 2) := by decide +kernel
theorem dX12_numbers_46 : decode cX12_numbers 46 = .ok (.lconst 1, 1) := by decide +kernel
theorem dX12_numbers_47 : decode cX12_numbers 47 = .ok (.iload 6, 2) := by decide +kernel
theorem dX12_numbers_49 : decode cX12_numbers 49 = .ok (.lshl, 1) := by decide +kernel
theorem dX12_numbers_50 : decode cX12_numbers 50 = .ok (.lor, 1) := by decide +kernel
theorem dX12_numbers_51 : decode cX12_numbers 51 = .ok (.lstore 4, 2) := by decide +kernel
theorem dX12_numbers_53 : decode cX12_numbers 53 = .ok (.iinc 6 1, 3) := by decide +kernel
theorem dX12_numbers_56 : decode cX12_numbers 56 = .ok (.goto (-44), 3) := by decide +kernel
theorem dX12_numbers_59 : decode cX12_numbers 59 = .ok (.lload 4, 2) := by decide +kernel
theorem dX12_numbers_61 : decode cX12_numbers 61 = .ok (.lreturn, 1) := by decide +kernel
theorem dX12_reads__0 : decode cX12_reads_ 0 = .ok (.aload_n 0, 1) := by decide +kernel
theorem dX12_reads__1 : decode cX12_reads_ 1 = .ok (.iconst 0, 1) := by decide +kernel
theorem dX12_reads__2 : decode cX12_reads_ 2 = .ok (.putfield 188, 3) := by decide +kernel
theorem dX12_reads__5 : decode cX12_reads_ 5 = .ok (.aload_n 0, 1) := by decide +kernel
theorem dX12_reads__6 : decode cX12_reads_ 6 = .ok (.iload_n 1, 1) := by decide +kernel
theorem dX12_reads__7 : decode cX12_reads_ 7 = .ok (.iconst 0, 1) := by decide +kernel
theorem dX12_reads__8 : decode cX12_reads_ 8 = .ok (.iconst 1, 1) := by decide +kernel
theorem dX12_reads__9 : decode cX12_reads_ 9 = .ok (.invokevirtual 201, 3) := by decide +kernel
theorem dX12_reads__12 : decode cX12_reads_ 12 = .ok (.ifCond .eq 20, 3) := by decide +kernel
theorem dX12_reads__15 : decode cX12_reads_ 15 = .ok (.aload_n 0, 1) := by decide +kernel
theorem dX12_reads__16 : decode cX12_reads_ 16 = .ok (.iload_n 2, 1) := by decide +kernel
theorem dX12_reads__17 : decode cX12_reads_ 17 = .ok (.invokevirtual 286, 3) := by decide +kernel
theorem dX12_reads__20 : decode cX12_reads_ 20 = .ok (.ifCond .eq 12, 3) := by decide +kernel
theorem dX12_reads__23 : decode cX12_reads_ 23 = .ok (.aload_n 0, 1) := by decide +kernel
theorem dX12_reads__24 : decode cX12_reads_ 24 = .ok (.iload_n 1, 1) := by decide +kernel
theorem dX12_reads__25 : decode cX12_reads_ 25 = .ok (.iload_n 2, 1) := by decide +kernel
theorem dX12_reads__26 : decode cX12_reads_ 26 = .ok (.invokevirtual 322, 3) := by decide +kernel
theorem dX12_reads__29 : decode cX12_reads_ 29 = .ok (.goto 6, 3) := by decide +kernel
theorem dX12_reads__32 : decode cX12_reads_ 32 = .ok (.ldc2_w 326, 3) := by decide +kernel
theorem dX12_reads__35 : decode cX12_reads_ 35 = .ok (.lreturn, 1) := by decide +kernel
theorem dX12_isFit_0 : decode cX12_isFit 0 = .ok (.aload_n 0, 1) := by decide +kernel
theorem dX12_isFit_1 : decode cX12_isFit 1 = .ok (.getfield 42, 3) := by decide +kernel
theorem dX12_isFit_4 : decode cX12_isFit 4 = .ok (.iload_n 2, 1) := by decide +kernel
theorem dX12_isFit_5 : decode cX12_isFit 5 = .ok (.iaload, 1) := by decide +kernel
theorem dX12_isFit_6 : decode cX12_isFit 6 = .ok (.istore 4, 2) := by decide +kernel
theorem dX12_isFit_8 : decode cX12_isFit 8 = .ok (.aload_n 0, 1) := by decide +kernel
theorem dX12_isFit_9 : decode cX12_isFit 9 = .ok (.getfield 42, 3) := by decide +kernel
theorem dX12_isFit_12 : decode cX12_isFit 12 = .ok (.iload_n 3, 1) := by decide +kernel
theorem dX12_isFit_13 : decode cX12_isFit 13 = .ok (.iaload, 1) := by decide +kernel
theorem dX12_isFit_14 : decode cX12_isFit 14 = .ok (.istore 5, 2) := by decide +kernel
theorem dX12_isFit_16 : decode cX12_isFit 16 = .ok (.aload_n 0, 1) := by decide +kernel
theorem dX12_isFit_17 : decode cX12_isFit 17 = .ok (.getfield 51, 3) := by decide +kernel
theorem dX12_isFit_20 : decode cX12_isFit 20 = .ok (.iload_n 3, 1) := by decide +kernel
theorem dX12_isFit_21 : decode cX12_isFit 21 = .ok (.iaload, 1) := by decide +kernel
theorem dX12_isFit_22 : decode cX12_isFit 22 = .ok (.aload_n 0, 1) := by decide +kernel
theorem dX12_isFit_23 : decode cX12_isFit 23 = .ok (.getfield 51, 3) := by decide +kernel
theorem dX12_isFit_26 : decode cX12_isFit 26 = .ok (.iload_n 2, 1) := by decide +kernel
theorem dX12_isFit_27 : decode cX12_isFit 27 = .ok (.iaload, 1) := by decide +kernel
theorem dX12_isFit_28 : decode cX12_isFit 28 = .ok (.isub, 1) := by decide +kernel
theorem dX12_isFit_29 : decode cX12_isFit 29 = .ok (.istore 6, 2) := by decide +kernel
theorem dX12_isFit_31 : decode cX12_isFit 31 = .ok (.iload 4, 2) := by decide +kernel
theorem dX12_isFit_33 : decode cX12_isFit 33 = .ok (.iload 5, 2) := by decide +kernel
theorem dX12_isFit_35 : decode cX12_isFit 35 = .ok (.if_icmp .eq 57, 3) := by decide +kernel
theorem dX12_isFit_38 : decode cX12_isFit 38 = .ok (.aload_n 0, 1) := by decide +kernel
theorem dX12_isFit_39 : decode cX12_isFit 39 = .ok (.getfield 75, 3) := by decide +kernel
theorem dX12_isFit_42 : decode cX12_isFit 42 = .ok (.bipush 50, 2) := by decide +kernel
theorem dX12_isFit_44 : decode cX12_isFit 44 = .ok (.iload_n 1, 1) := by decide +kernel
theorem dX12_isFit_45 : decode cX12_isFit 45 = .ok (.imul, 1) := by decide +kernel
theorem dX12_isFit_46 : decode cX12_isFit 46 = .ok (.bipush 10, 2) := by decide +kernel
theorem dX12_isFit_48 : decode cX12_isFit 48 = .ok (.iadd, 1) := by decide +kernel
theorem dX12_isFit_49 : decode cX12_isFit 49 = .ok (.iconst 4, 1) := by decide +kernel
theorem dX12_isFit_50 : decode cX12_isFit 50 = .ok (.aload_n 0, 1) := by decide +kernel
theorem dX12_isFit_51 : decode cX12_isFit 51 = .ok (.getfield 13, 3) := by decide +kernel
theorem dX12_isFit_54 : decode cX12_isFit 54 = .ok (.iload 4, 2) := by decide +kernel
theorem dX12_isFit_56 : decode cX12_isFit 56 = .ok (.iaload, 1) := by decide +kernel
theorem dX12_isFit_57 : decode cX12_isFit 57 = .ok (.imul, 1) := by decide +kernel
theorem dX12_isFit_58 : decode cX12_isFit 58 = .ok (.iadd, 1) := by decide +kernel
theorem dX12_isFit_59 : decode cX12_isFit 59 = .ok (.aload_n 0, 1) := by decide +kernel
theorem dX12_isFit_60 : decode cX12_isFit 60 = .ok (.getfield 13, 3) := by decide +kernel
theorem dX12_isFit_63 : decode cX12_isFit 63 = .ok (.iload 5, 2) := by decide +kernel
theorem dX12_isFit_65 : decode cX12_isFit 65 = .ok (.iaload, 1) := by decide +kernel
theorem dX12_isFit_66 : decode cX12_isFit 66 = .ok (.iadd, 1) := by decide +kernel
theorem dX12_isFit_67 : decode cX12_isFit 67 = .ok (.iaload, 1) := by decide +kernel
theorem dX12_isFit_68 : decode cX12_isFit 68 = .ok (.ifCond .eq 24, 3) := by decide +kernel
theorem dX12_isFit_71 : decode cX12_isFit 71 = .ok (.aload_n 0, 1) := by decide +kernel
theorem dX12_isFit_72 : decode cX12_isFit 72 = .ok (.iload 6, 2) := by decide +kernel
theorem dX12_isFit_74 : decode cX12_isFit 74 = .ok (.iconst 0, 1) := by decide +kernel
theorem dX12_isFit_75 : decode cX12_isFit 75 = .ok (.aload_n 0, 1) := by decide +kernel
theorem dX12_isFit_76 : decode cX12_isFit 76 = .ok (.getfield 75, 3) := by decide +kernel
theorem dX12_isFit_79 : decode cX12_isFit 79 = .ok (.bipush 50, 2) := by decide +kernel
theorem dX12_isFit_81 : decode cX12_isFit 81 = .ok (.iload_n 1, 1) := by decide +kernel
theorem dX12_isFit_82 : decode cX12_isFit 82 = .ok (.imul, 1) := by decide +kernel
theorem dX12_isFit_83 : decode cX12_isFit 83 = .ok (.iconst 2, 1) := by decide +kernel
theorem dX12_isFit_84 : decode cX12_isFit 84 = .ok (.iadd, 1) := by decide +kernel
theorem dX12_isFit_85 : decode cX12_isFit 85 = .ok (.iaload, 1) := by decide +kernel
theorem dX12_isFit_86 : decode cX12_isFit 86 = .ok (.invokevirtual 201, 3) := by decide +kernel
theorem dX12_isFit_89 : decode cX12_isFit 89 = .ok (.ifCond .ne 5, 3) := by decide +kernel
theorem dX12_isFit_92 : decode cX12_isFit 92 = .ok (.iconst 0, 1) := by decide +kernel
theorem dX12_isFit_93 : decode cX12_isFit 93 = .ok (.ireturn, 1) := by decide +kernel
theorem dX12_isFit_94 : decode cX12_isFit 94 = .ok (.aload_n 0, 1) := by decide +kernel
theorem dX12_isFit_95 : decode cX12_isFit 95 = .ok (.iload_n 2, 1) := by decide +kernel
theorem dX12_isFit_96 : decode cX12_isFit 96 = .ok (.invokevirtual 298, 3) := by decide +kernel
theorem dX12_isFit_99 : decode cX12_isFit 99 = .ok (.ifCond .le 26, 3) := by decide +kernel
theorem dX12_isFit_102 : decode cX12_isFit 102 = .ok (.aload_n 0, 1) := by decide +kernel
theorem dX12_isFit_103 : decode cX12_isFit 103 = .ok (.iload_n 3, 1) := by decide +kernel
theorem dX12_isFit_104 : decode cX12_isFit 104 = .ok (.invokevirtual 298, 3) := by decide +kernel
theorem dX12_isFit_107 : decode cX12_isFit 107 = .ok (.ifCond .le 18, 3) := by decide +kernel
theorem dX12_isFit_110 : decode cX12_isFit 110 = .ok (.aload_n 0, 1) := by decide +kernel
theorem dX12_isFit_111 : decode cX12_isFit 111 = .ok (.iload_n 2, 1) := by decide +kernel
theorem dX12_isFit_112 : decode cX12_isFit 112 = .ok (.invokevirtual 301, 3) := by decide +kernel
theorem dX12_isFit_115 : decode cX12_isFit 115 = .ok (.aload_n 0, 1) := by decide +kernel
theorem dX12_isFit_116 : decode cX12_isFit 116 = .ok (.iload_n 3, 1) := by decide +kernel
theorem dX12_isFit_117 : decode cX12_isFit 117 = .ok (.invokevirtual 301, 3) := by decide +kernel
theorem dX12_isFit_120 : decode cX12_isFit 120 = .ok (.if_icmp .eq 5, 3) := by decide +kernel
theorem dX12_isFit_123 : decode cX12_isFit 123 = .ok (.iconst 0, 1) := by decide +kernel
theorem dX12_isFit_124 : decode cX12_isFit 124 = .ok (.ireturn, 1) := by decide +kernel
theorem dX12_isFit_125 : decode cX12_isFit 125 = .ok (.aload_n 0, 1) := by decide +kernel
theorem dX12_isFit_126 : decode cX12_isFit 126 = .ok (.iload_n 1, 1) := by decide +kernel
theorem dX12_isFit_127 : decode cX12_isFit 127 = .ok (.iload_n 2, 1) := by decide +kernel
theorem dX12_isFit_128 : decode cX12_isFit 128 = .ok (.invokevirtual 322, 3) := by decide +kernel
theorem dX12_isFit_131 : decode cX12_isFit 131 = .ok (.aload_n 0, 1) := by decide +kernel
theorem dX12_isFit_132 : decode cX12_isFit 132 = .ok (.iload_n 1, 1) := by decide +kernel
theorem dX12_isFit_133 : decode cX12_isFit 133 = .ok (.iload_n 3, 1) := by decide +kernel
theorem dX12_isFit_134 : decode cX12_isFit 134 = .ok (.invokevirtual 322, 3) := by decide +kernel
theorem dX12_isFit_137 : decode cX12_isFit 137 = .ok (.land, 1) := by decide +kernel
theorem dX12_isFit_138 : decode cX12_isFit 138 = .ok (.lconst 0, 1) := by decide +kernel
theorem dX12_isFit_139 : decode cX12_isFit 139 = .ok (.lcmp, 1) := by decide +kernel
theorem dX12_isFit_140 : decode cX12_isFit 140 = .ok (.ifCond .eq 7, 3) := by decide +kernel
theorem dX12_isFit_143 : decode cX12_isFit 143 = .ok (.iconst 1, 1) := by decide +kernel
theorem dX12_isFit_144 : decode cX12_isFit 144 = .ok (.goto 4, 3) := by decide +kernel
theorem dX12_isFit_147 : decode cX12_isFit 147 = .ok (.iconst 0, 1) := by decide +kernel
theorem dX12_isFit_148 : decode cX12_isFit 148 = .ok (.ireturn, 1) := by decide +kernel
theorem dX12_fits_0 : decode cX12_fits 0 = .ok (.aload_n 0, 1) := by decide +kernel
theorem dX12_fits_1 : decode cX12_fits 1 = .ok (.iconst 0, 1) := by decide +kernel
theorem dX12_fits_2 : decode cX12_fits 2 = .ok (.putfield 188, 3) := by decide +kernel
theorem dX12_fits_5 : decode cX12_fits 5 = .ok (.aload_n 0, 1) := by decide +kernel
theorem dX12_fits_6 : decode cX12_fits 6 = .ok (.iload_n 1, 1) := by decide +kernel
theorem dX12_fits_7 : decode cX12_fits 7 = .ok (.iconst 0, 1) := by decide +kernel
theorem dX12_fits_8 : decode cX12_fits 8 = .ok (.iconst 1, 1) := by decide +kernel
theorem dX12_fits_9 : decode cX12_fits 9 = .ok (.invokevirtual 201, 3) := by decide +kernel
theorem dX12_fits_12 : decode cX12_fits 12 = .ok (.ifCond .eq 38, 3) := by decide +kernel
theorem dX12_fits_15 : decode cX12_fits 15 = .ok (.aload_n 0, 1) := by decide +kernel
theorem dX12_fits_16 : decode cX12_fits 16 = .ok (.iload_n 2, 1) := by decide +kernel
theorem dX12_fits_17 : decode cX12_fits 17 = .ok (.invokevirtual 286, 3) := by decide +kernel
theorem dX12_fits_20 : decode cX12_fits 20 = .ok (.ifCond .eq 30, 3) := by decide +kernel
theorem dX12_fits_23 : decode cX12_fits 23 = .ok (.aload_n 0, 1) := by decide +kernel
theorem dX12_fits_24 : decode cX12_fits 24 = .ok (.iload_n 3, 1) := by decide +kernel
theorem dX12_fits_25 : decode cX12_fits 25 = .ok (.invokevirtual 286, 3) := by decide +kernel
theorem dX12_fits_28 : decode cX12_fits 28 = .ok (.ifCond .eq 22, 3) := by decide +kernel
theorem dX12_fits_31 : decode cX12_fits 31 = .ok (.aload_n 0, 1) := by decide +kernel
theorem dX12_fits_32 : decode cX12_fits 32 = .ok (.getfield 48, 3) := by decide +kernel
theorem dX12_fits_35 : decode cX12_fits 35 = .ok (.iload_n 2, 1) := by decide +kernel
theorem dX12_fits_36 : decode cX12_fits 36 = .ok (.iaload, 1) := by decide +kernel
theorem dX12_fits_37 : decode cX12_fits 37 = .ok (.ifCond .ne 13, 3) := by decide +kernel
theorem dX12_fits_40 : decode cX12_fits 40 = .ok (.aload_n 0, 1) := by decide +kernel
theorem dX12_fits_41 : decode cX12_fits 41 = .ok (.getfield 48, 3) := by decide +kernel
theorem dX12_fits_44 : decode cX12_fits 44 = .ok (.iload_n 3, 1) := by decide +kernel
theorem dX12_fits_45 : decode cX12_fits 45 = .ok (.iaload, 1) := by decide +kernel
theorem dX12_fits_46 : decode cX12_fits 46 = .ok (.iconst 1, 1) := by decide +kernel
theorem dX12_fits_47 : decode cX12_fits 47 = .ok (.if_icmp .eq 5, 3) := by decide +kernel
theorem dX12_fits_50 : decode cX12_fits 50 = .ok (.iconst (-1), 1) := by decide +kernel
theorem dX12_fits_51 : decode cX12_fits 51 = .ok (.ireturn, 1) := by decide +kernel
theorem dX12_fits_52 : decode cX12_fits 52 = .ok (.aload_n 0, 1) := by decide +kernel
theorem dX12_fits_53 : decode cX12_fits 53 = .ok (.iload_n 1, 1) := by decide +kernel
theorem dX12_fits_54 : decode cX12_fits 54 = .ok (.iload_n 2, 1) := by decide +kernel
theorem dX12_fits_55 : decode cX12_fits 55 = .ok (.iload_n 3, 1) := by decide +kernel
theorem dX12_fits_56 : decode cX12_fits 56 = .ok (.invokevirtual 328, 3) := by decide +kernel
theorem dX12_fits_59 : decode cX12_fits 59 = .ok (.ifCond .eq 7, 3) := by decide +kernel
theorem dX12_fits_62 : decode cX12_fits 62 = .ok (.iconst 1, 1) := by decide +kernel
theorem dX12_fits_63 : decode cX12_fits 63 = .ok (.goto 4, 3) := by decide +kernel
theorem dX12_fits_66 : decode cX12_fits 66 = .ok (.iconst 0, 1) := by decide +kernel
theorem dX12_fits_67 : decode cX12_fits 67 = .ok (.ireturn, 1) := by decide +kernel
theorem dX12_findRows_0 : decode cX12_findRows 0 = .ok (.aload_n 0, 1) := by decide +kernel
theorem dX12_findRows_1 : decode cX12_findRows 1 = .ok (.iconst 0, 1) := by decide +kernel
theorem dX12_findRows_2 : decode cX12_findRows 2 = .ok (.putfield 331, 3) := by decide +kernel
theorem dX12_findRows_5 : decode cX12_findRows 5 = .ok (.aload_n 0, 1) := by decide +kernel
theorem dX12_findRows_6 : decode cX12_findRows 6 = .ok (.iconst 0, 1) := by decide +kernel
theorem dX12_findRows_7 : decode cX12_findRows 7 = .ok (.putfield 334, 3) := by decide +kernel
theorem dX12_findRows_10 : decode cX12_findRows 10 = .ok (.iconst 0, 1) := by decide +kernel
theorem dX12_findRows_11 : decode cX12_findRows 11 = .ok (.istore_n 2, 1) := by decide +kernel
theorem dX12_findRows_12 : decode cX12_findRows 12 = .ok (.iload_n 2, 1) := by decide +kernel
theorem dX12_findRows_13 : decode cX12_findRows 13 = .ok (.aload_n 0, 1) := by decide +kernel
theorem dX12_findRows_14 : decode cX12_findRows 14 = .ok (.getfield 198, 3) := by decide +kernel
theorem dX12_findRows_17 : decode cX12_findRows 17 = .ok (.if_icmp .ge 87, 3) := by decide +kernel
theorem dX12_findRows_20 : decode cX12_findRows 20 = .ok (.aload_n 0, 1) := by decide +kernel
theorem dX12_findRows_21 : decode cX12_findRows 21 = .ok (.iload_n 2, 1) := by decide +kernel
theorem dX12_findRows_22 : decode cX12_findRows 22 = .ok (.invokevirtual 286, 3) := by decide +kernel
theorem dX12_findRows_25 : decode cX12_findRows 25 = .ok (.ifCond .eq 73, 3) := by decide +kernel
theorem dX12_findRows_28 : decode cX12_findRows 28 = .ok (.iload_n 1, 1) := by decide +kernel
theorem dX12_findRows_29 : decode cX12_findRows 29 = .ok (.iconst 1, 1) := by decide +kernel
theorem dX12_findRows_30 : decode cX12_findRows 30 = .ok (.if_icmp .ne 16, 3) := by decide +kernel
theorem dX12_findRows_33 : decode cX12_findRows 33 = .ok (.aload_n 0, 1) := by decide +kernel
theorem dX12_findRows_34 : decode cX12_findRows 34 = .ok (.getfield 126, 3) := by decide +kernel
theorem dX12_findRows_37 : decode cX12_findRows 37 = .ok (.iload_n 2, 1) := by decide +kernel
theorem dX12_findRows_38 : decode cX12_findRows 38 = .ok (.iaload, 1) := by decide +kernel
theorem dX12_findRows_39 : decode cX12_findRows 39 = .ok (.iconst (-1), 1) := by decide +kernel
theorem dX12_findRows_40 : decode cX12_findRows 40 = .ok (.if_icmp .eq 6, 3) := by decide +kernel
theorem dX12_findRows_43 : decode cX12_findRows 43 = .ok (.goto 55, 3) := by decide +kernel
theorem dX12_findRows_46 : decode cX12_findRows 46 = .ok (.aload_n 0, 1) := by decide +kernel
theorem dX12_findRows_47 : decode cX12_findRows 47 = .ok (.getfield 48, 3) := by decide +kernel
theorem dX12_findRows_50 : decode cX12_findRows 50 = .ok (.iload_n 2, 1) := by decide +kernel
theorem dX12_findRows_51 : decode cX12_findRows 51 = .ok (.iaload, 1) := by decide +kernel
theorem dX12_findRows_52 : decode cX12_findRows 52 = .ok (.ifCond .ne 26, 3) := by decide +kernel
theorem dX12_findRows_55 : decode cX12_findRows 55 = .ok (.aload_n 0, 1) := by decide +kernel
theorem dX12_findRows_56 : decode cX12_findRows 56 = .ok (.getfield 87, 3) := by decide +kernel
theorem dX12_findRows_59 : decode cX12_findRows 59 = .ok (.aload_n 0, 1) := by decide +kernel
theorem dX12_findRows_60 : decode cX12_findRows 60 = .ok (.getfield 331, 3) := by decide +kernel
theorem dX12_findRows_63 : decode cX12_findRows 63 = .ok (.iload_n 2, 1) := by decide +kernel
theorem dX12_findRows_64 : decode cX12_findRows 64 = .ok (.iastore, 1) := by decide +kernel
theorem dX12_findRows_65 : decode cX12_findRows 65 = .ok (.aload_n 0, 1) := by decide +kernel
theorem dX12_findRows_66 : decode cX12_findRows 66 = .ok (.aload_n 0, 1) := by decide +kernel
theorem dX12_findRows_67 : decode cX12_findRows 67 = .ok (.getfield 331, 3) := by decide +kernel
theorem dX12_findRows_70 : decode cX12_findRows 70 = .ok (.iconst 1, 1) := by decide +kernel
theorem dX12_findRows_71 : decode cX12_findRows 71 = .ok (.iadd, 1) := by decide +kernel
theorem dX12_findRows_72 : decode cX12_findRows 72 = .ok (.putfield 331, 3) := by decide +kernel
theorem dX12_findRows_75 : decode cX12_findRows 75 = .ok (.goto 23, 3) := by decide +kernel
theorem dX12_findRows_78 : decode cX12_findRows 78 = .ok (.aload_n 0, 1) := by decide +kernel
theorem dX12_findRows_79 : decode cX12_findRows 79 = .ok (.getfield 90, 3) := by decide +kernel
theorem dX12_findRows_82 : decode cX12_findRows 82 = .ok (.aload_n 0, 1) := by decide +kernel
theorem dX12_findRows_83 : decode cX12_findRows 83 = .ok (.getfield 334, 3) := by decide +kernel
theorem dX12_findRows_86 : decode cX12_findRows 86 = .ok (.iload_n 2, 1) := by decide +kernel
theorem dX12_findRows_87 : decode cX12_findRows 87 = .ok (.iastore, 1) := by decide +kernel
theorem dX12_findRows_88 : decode cX12_findRows 88 = .ok (.aload_n 0, 1) := by decide +kernel
theorem dX12_findRows_89 : decode cX12_findRows 89 = .ok (.aload_n 0, 1) := by decide +kernel
theorem dX12_findRows_90 : decode cX12_findRows 90 = .ok (.getfield 334, 3) := by decide +kernel
theorem dX12_findRows_93 : decode cX12_findRows 93 = .ok (.iconst 1, 1) := by decide +kernel
theorem dX12_findRows_94 : decode cX12_findRows 94 = .ok (.iadd, 1) := by decide +kernel
theorem dX12_findRows_95 : decode cX12_findRows 95 = .ok (.putfield 334, 3) := by decide +kernel
theorem dX12_findRows_98 : decode cX12_findRows 98 = .ok (.iinc 2 1, 3) := by decide +kernel
theorem dX12_findRows_101 : decode cX12_findRows 101 = .ok (.goto (-89), 3) := by decide +kernel
theorem dX12_findRows_104 : decode cX12_findRows 104 = .ok (.iconst 0, 1) := by decide +kernel
theorem dX12_findRows_105 : decode cX12_findRows 105 = .ok (.istore_n 2, 1) := by decide +kernel
theorem dX12_findRows_106 : decode cX12_findRows 106 = .ok (.iload_n 2, 1) := by decide +kernel
theorem dX12_findRows_107 : decode cX12_findRows 107 = .ok (.aload_n 0, 1) := by decide +kernel
theorem dX12_findRows_108 : decode cX12_findRows 108 = .ok (.getfield 331, 3) := by decide +kernel
theorem dX12_findRows_111 : decode cX12_findRows 111 = .ok (.if_icmp .ge 97, 3) := by decide +kernel
theorem dX12_findRows_114 : decode cX12_findRows 114 = .ok (.aload_n 0, 1) := by decide +kernel
theorem dX12_findRows_115 : decode cX12_findRows 115 = .ok (.getfield 96, 3) := by decide +kernel
theorem dX12_findRows_118 : decode cX12_findRows 118 = .ok (.iload_n 2, 1) := by decide +kernel
theorem dX12_findRows_119 : decode cX12_findRows 119 = .ok (.iconst (-1), 1) := by decide +kernel
theorem dX12_findRows_120 : decode cX12_findRows 120 = .ok (.iastore, 1) := by decide +kernel
theorem dX12_findRows_121 : decode cX12_findRows 121 = .ok (.aload_n 0, 1) := by decide +kernel
theorem dX12_findRows_122 : decode cX12_findRows 122 = .ok (.getfield 105, 3) := by decide +kernel
theorem dX12_findRows_125 : decode cX12_findRows 125 = .ok (.iload_n 2, 1) := by decide +kernel
theorem dX12_findRows_126 : decode cX12_findRows 126 = .ok (.iconst 0, 1) := by decide +kernel
theorem dX12_findRows_127 : decode cX12_findRows 127 = .ok (.bastore, 1) := by decide +kernel
theorem dX12_findRows_128 : decode cX12_findRows 128 = .ok (.iconst 0, 1) := by decide +kernel
theorem dX12_findRows_129 : decode cX12_findRows 129 = .ok (.istore_n 3, 1) := by decide +kernel
theorem dX12_findRows_130 : decode cX12_findRows 130 = .ok (.iload_n 3, 1) := by decide +kernel
theorem dX12_findRows_131 : decode cX12_findRows 131 = .ok (.aload_n 0, 1) := by decide +kernel
theorem dX12_findRows_132 : decode cX12_findRows 132 = .ok (.getfield 334, 3) := by decide +kernel
theorem dX12_findRows_135 : decode cX12_findRows 135 = .ok (.if_icmp .ge 67, 3) := by decide +kernel
theorem dX12_findRows_138 : decode cX12_findRows 138 = .ok (.aload_n 0, 1) := by decide +kernel
theorem dX12_findRows_139 : decode cX12_findRows 139 = .ok (.getfield 93, 3) := by decide +kernel
theorem dX12_findRows_142 : decode cX12_findRows 142 = .ok (.bipush 48, 2) := by decide +kernel
theorem dX12_findRows_144 : decode cX12_findRows 144 = .ok (.iload_n 2, 1) := by decide +kernel
theorem dX12_findRows_145 : decode cX12_findRows 145 = .ok (.imul, 1) := by decide +kernel
theorem dX12_findRows_146 : decode cX12_findRows 146 = .ok (.iload_n 3, 1) := by decide +kernel
theorem dX12_findRows_147 : decode cX12_findRows 147 = .ok (.iadd, 1) := by decide +kernel
theorem dX12_findRows_148 : decode cX12_findRows 148 = .ok (.aload_n 0, 1) := by decide +kernel
theorem dX12_findRows_149 : decode cX12_findRows 149 = .ok (.iload_n 1, 1) := by decide +kernel
theorem dX12_findRows_150 : decode cX12_findRows 150 = .ok (.aload_n 0, 1) := by decide +kernel
theorem dX12_findRows_151 : decode cX12_findRows 151 = .ok (.getfield 87, 3) := by decide +kernel
theorem dX12_findRows_154 : decode cX12_findRows 154 = .ok (.iload_n 2, 1) := by decide +kernel
theorem dX12_findRows_155 : decode cX12_findRows 155 = .ok (.iaload, 1) := by decide +kernel
theorem dX12_findRows_156 : decode cX12_findRows 156 = .ok (.aload_n 0, 1) := by decide +kernel
theorem dX12_findRows_157 : decode cX12_findRows 157 = .ok (.getfield 90, 3) := by decide +kernel
theorem dX12_findRows_160 : decode cX12_findRows 160 = .ok (.iload_n 3, 1) := by decide +kernel
theorem dX12_findRows_161 : decode cX12_findRows 161 = .ok (.iaload, 1) := by decide +kernel
theorem dX12_findRows_162 : decode cX12_findRows 162 = .ok (.invokevirtual 328, 3) := by decide +kernel
theorem dX12_findRows_165 : decode cX12_findRows 165 = .ok (.ifCond .eq 29, 3) := by decide +kernel
theorem dX12_findRows_168 : decode cX12_findRows 168 = .ok (.aload_n 0, 1) := by decide +kernel
theorem dX12_findRows_169 : decode cX12_findRows 169 = .ok (.getfield 51, 3) := by decide +kernel
theorem dX12_findRows_172 : decode cX12_findRows 172 = .ok (.aload_n 0, 1) := by decide +kernel
theorem dX12_findRows_173 : decode cX12_findRows 173 = .ok (.getfield 90, 3) := by decide +kernel
theorem dX12_findRows_176 : decode cX12_findRows 176 = .ok (.iload_n 3, 1) := by decide +kernel
theorem dX12_findRows_177 : decode cX12_findRows 177 = .ok (.iaload, 1) := by decide +kernel
theorem dX12_findRows_178 : decode cX12_findRows 178 = .ok (.iaload, 1) := by decide +kernel
theorem dX12_findRows_179 : decode cX12_findRows 179 = .ok (.aload_n 0, 1) := by decide +kernel
theorem dX12_findRows_180 : decode cX12_findRows 180 = .ok (.getfield 51, 3) := by decide +kernel
theorem dX12_findRows_183 : decode cX12_findRows 183 = .ok (.aload_n 0, 1) := by decide +kernel
theorem dX12_findRows_184 : decode cX12_findRows 184 = .ok (.getfield 87, 3) := by decide +kernel
theorem dX12_findRows_187 : decode cX12_findRows 187 = .ok (.iload_n 2, 1) := by decide +kernel
theorem dX12_findRows_188 : decode cX12_findRows 188 = .ok (.iaload, 1) := by decide +kernel
theorem dX12_findRows_189 : decode cX12_findRows 189 = .ok (.iaload, 1) := by decide +kernel
theorem dX12_findRows_190 : decode cX12_findRows 190 = .ok (.isub, 1) := by decide +kernel
theorem dX12_findRows_191 : decode cX12_findRows 191 = .ok (.goto 4, 3) := by decide +kernel
theorem dX12_findRows_194 : decode cX12_findRows 194 = .ok (.iconst (-1), 1) := by decide +kernel
theorem dX12_findRows_195 : decode cX12_findRows 195 = .ok (.iastore, 1) := by decide +kernel
theorem dX12_findRows_196 : decode cX12_findRows 196 = .ok (.iinc 3 1, 3) := by decide +kernel
theorem dX12_findRows_199 : decode cX12_findRows 199 = .ok (.goto (-69), 3) := by decide +kernel
theorem dX12_findRows_202 : decode cX12_findRows 202 = .ok (.iinc 2 1, 3) := by decide +kernel
theorem dX12_findRows_205 : decode cX12_findRows 205 = .ok (.goto (-99), 3) := by decide +kernel
theorem dX12_findRows_208 : decode cX12_findRows 208 = .ok (.iconst 0, 1) := by decide +kernel
theorem dX12_findRows_209 : decode cX12_findRows 209 = .ok (.istore_n 2, 1) := by decide +kernel
theorem dX12_findRows_210 : decode cX12_findRows 210 = .ok (.iload_n 2, 1) := by decide +kernel
theorem dX12_findRows_211 : decode cX12_findRows 211 = .ok (.aload_n 0, 1) := by decide +kernel
theorem dX12_findRows_212 : decode cX12_findRows 212 = .ok (.getfield 334, 3) := by decide +kernel
theorem dX12_findRows_215 : decode cX12_findRows 215 = .ok (.if_icmp .ge 23, 3) := by decide +kernel
theorem dX12_findRows_218 : decode cX12_findRows 218 = .ok (.aload_n 0, 1) := by decide +kernel
theorem dX12_findRows_219 : decode cX12_findRows 219 = .ok (.getfield 99, 3) := by decide +kernel
theorem dX12_findRows_222 : decode cX12_findRows 222 = .ok (.iload_n 2, 1) := by decide +kernel
theorem dX12_findRows_223 : decode cX12_findRows 223 = .ok (.iconst (-1), 1) := by decide +kernel
theorem dX12_findRows_224 : decode cX12_findRows 224 = .ok (.iastore, 1) := by decide +kernel
theorem dX12_findRows_225 : decode cX12_findRows 225 = .ok (.aload_n 0, 1) := by decide +kernel
theorem dX12_findRows_226 : decode cX12_findRows 226 = .ok (.getfield 108, 3) := by decide +kernel
theorem dX12_findRows_229 : decode cX12_findRows 229 = .ok (.iload_n 2, 1) := by decide +kernel
theorem dX12_findRows_230 : decode cX12_findRows 230 = .ok (.iconst 0, 1) := by decide +kernel
theorem dX12_findRows_231 : decode cX12_findRows 231 = .ok (.bastore, 1) := by decide +kernel
theorem dX12_findRows_232 : decode cX12_findRows 232 = .ok (.iinc 2 1, 3) := by decide +kernel
theorem dX12_findRows_235 : decode cX12_findRows 235 = .ok (.goto (-25), 3) := by decide +kernel
theorem dX12_findRows_238 : decode cX12_findRows 238 = .ok (.aload_n 0, 1) := by decide +kernel
theorem dX12_findRows_239 : decode cX12_findRows 239 = .ok (.iconst 0, 1) := by decide +kernel
theorem dX12_findRows_240 : decode cX12_findRows 240 = .ok (.putfield 337, 3) := by decide +kernel
theorem dX12_findRows_243 : decode cX12_findRows 243 = .ok (.aload_n 0, 1) := by decide +kernel
theorem dX12_findRows_244 : decode cX12_findRows 244 = .ok (.iconst 0, 1) := by decide +kernel
theorem dX12_findRows_245 : decode cX12_findRows 245 = .ok (.putfield 340, 3) := by decide +kernel
theorem dX12_findRows_248 : decode cX12_findRows 248 = .ok (.aload_n 0, 1) := by decide +kernel
theorem dX12_findRows_249 : decode cX12_findRows 249 = .ok (.iconst (-1), 1) := by decide +kernel
theorem dX12_findRows_250 : decode cX12_findRows 250 = .ok (.putfield 111, 3) := by decide +kernel
theorem dX12_findRows_253 : decode cX12_findRows 253 = .ok (.aload_n 0, 1) := by decide +kernel
theorem dX12_findRows_254 : decode cX12_findRows 254 = .ok (.iconst (-1), 1) := by decide +kernel
theorem dX12_findRows_255 : decode cX12_findRows 255 = .ok (.putfield 114, 3) := by decide +kernel
theorem dX12_findRows_258 : decode cX12_findRows 258 = .ok (.return_, 1) := by decide +kernel
theorem dX12_findFars_0 : decode cX12_findFars 0 = .ok (.iconst 0, 1) := by decide +kernel
theorem dX12_findFars_1 : decode cX12_findFars 1 = .ok (.istore_n 1, 1) := by decide +kernel
theorem dX12_findFars_2 : decode cX12_findFars 2 = .ok (.iload_n 1, 1) := by decide +kernel
theorem dX12_findFars_3 : decode cX12_findFars 3 = .ok (.aload_n 0, 1) := by decide +kernel
theorem dX12_findFars_4 : decode cX12_findFars 4 = .ok (.getfield 331, 3) := by decide +kernel
theorem dX12_findFars_7 : decode cX12_findFars 7 = .ok (.if_icmp .ge 41, 3) := by decide +kernel
theorem dX12_findFars_10 : decode cX12_findFars 10 = .ok (.aload_n 0, 1) := by decide +kernel
theorem dX12_findFars_11 : decode cX12_findFars 11 = .ok (.getfield 117, 3) := by decide +kernel
theorem dX12_findFars_14 : decode cX12_findFars 14 = .ok (.iload_n 1, 1) := by decide +kernel
theorem dX12_findFars_15 : decode cX12_findFars 15 = .ok (.aload_n 0, 1) := by decide +kernel
theorem dX12_findFars_16 : decode cX12_findFars 16 = .ok (.getfield 105, 3) := by decide +kernel
theorem dX12_findFars_19 : decode cX12_findFars 19 = .ok (.iload_n 1, 1) := by decide +kernel
theorem dX12_findFars_20 : decode cX12_findFars 20 = .ok (.baload, 1) := by decide +kernel
theorem dX12_findFars_21 : decode cX12_findFars 21 = .ok (.ifCond .ne 17, 3) := by decide +kernel
theorem dX12_findFars_24 : decode cX12_findFars 24 = .ok (.aload_n 0, 1) := by decide +kernel
theorem dX12_findFars_25 : decode cX12_findFars 25 = .ok (.getfield 96, 3) := by decide +kernel
theorem dX12_findFars_28 : decode cX12_findFars 28 = .ok (.iload_n 1, 1) := by decide +kernel
theorem dX12_findFars_29 : decode cX12_findFars 29 = .ok (.iaload, 1) := by decide +kernel
theorem dX12_findFars_30 : decode cX12_findFars 30 = .ok (.iconst (-1), 1) := by decide +kernel
theorem dX12_findFars_31 : decode cX12_findFars 31 = .ok (.if_icmp .ne 7, 3) := by decide +kernel
theorem dX12_findFars_34 : decode cX12_findFars 34 = .ok (.iconst 0, 1) := by decide +kernel
theorem dX12_findFars_35 : decode cX12_findFars 35 = .ok (.goto 6, 3) := by decide +kernel
theorem dX12_findFars_38 : decode cX12_findFars 38 = .ok (.ldc_w 343, 3) := by decide +kernel
theorem dX12_findFars_41 : decode cX12_findFars 41 = .ok (.iastore, 1) := by decide +kernel
theorem dX12_findFars_42 : decode cX12_findFars 42 = .ok (.iinc 1 1, 3) := by decide +kernel
theorem dX12_findFars_45 : decode cX12_findFars 45 = .ok (.goto (-43), 3) := by decide +kernel
theorem dX12_findFars_48 : decode cX12_findFars 48 = .ok (.iconst 0, 1) := by decide +kernel
theorem dX12_findFars_49 : decode cX12_findFars 49 = .ok (.istore_n 1, 1) := by decide +kernel
theorem dX12_findFars_50 : decode cX12_findFars 50 = .ok (.iload_n 1, 1) := by decide +kernel
theorem dX12_findFars_51 : decode cX12_findFars 51 = .ok (.aload_n 0, 1) := by decide +kernel
theorem dX12_findFars_52 : decode cX12_findFars 52 = .ok (.getfield 334, 3) := by decide +kernel
theorem dX12_findFars_55 : decode cX12_findFars 55 = .ok (.if_icmp .ge 18, 3) := by decide +kernel
theorem dX12_findFars_58 : decode cX12_findFars 58 = .ok (.aload_n 0, 1) := by decide +kernel
theorem dX12_findFars_59 : decode cX12_findFars 59 = .ok (.getfield 120, 3) := by decide +kernel
theorem dX12_findFars_62 : decode cX12_findFars 62 = .ok (.iload_n 1, 1) := by decide +kernel
theorem dX12_findFars_63 : decode cX12_findFars 63 = .ok (.ldc_w 343, 3) := by decide +kernel
theorem dX12_findFars_66 : decode cX12_findFars 66 = .ok (.iastore, 1) := by decide +kernel
theorem dX12_findFars_67 : decode cX12_findFars 67 = .ok (.iinc 1 1, 3) := by decide +kernel
theorem dX12_findFars_70 : decode cX12_findFars 70 = .ok (.goto (-20), 3) := by decide +kernel
theorem dX12_findFars_73 : decode cX12_findFars 73 = .ok (.iconst 1, 1) := by decide +kernel
theorem dX12_findFars_74 : decode cX12_findFars 74 = .ok (.istore_n 1, 1) := by decide +kernel
theorem dX12_findFars_75 : decode cX12_findFars 75 = .ok (.iload_n 1, 1) := by decide +kernel
theorem dX12_findFars_76 : decode cX12_findFars 76 = .ok (.ifCond .eq 232, 3) := by decide +kernel
theorem dX12_findFars_79 : decode cX12_findFars 79 = .ok (.iconst 0, 1) := by decide +kernel
theorem dX12_findFars_80 : decode cX12_findFars 80 = .ok (.istore_n 1, 1) := by decide +kernel
theorem dX12_findFars_81 : decode cX12_findFars 81 = .ok (.iconst 0, 1) := by decide +kernel
theorem dX12_findFars_82 : decode cX12_findFars 82 = .ok (.istore_n 2, 1) := by decide +kernel
theorem dX12_findFars_83 : decode cX12_findFars 83 = .ok (.iload_n 2, 1) := by decide +kernel
theorem dX12_findFars_84 : decode cX12_findFars 84 = .ok (.aload_n 0, 1) := by decide +kernel
theorem dX12_findFars_85 : decode cX12_findFars 85 = .ok (.getfield 331, 3) := by decide +kernel
theorem dX12_findFars_88 : decode cX12_findFars 88 = .ok (.if_icmp .ge 217, 3) := by decide +kernel
theorem dX12_findFars_91 : decode cX12_findFars 91 = .ok (.aload_n 0, 1) := by decide +kernel
theorem dX12_findFars_92 : decode cX12_findFars 92 = .ok (.getfield 105, 3) := by decide +kernel
theorem dX12_findFars_95 : decode cX12_findFars 95 = .ok (.iload_n 2, 1) := by decide +kernel
theorem dX12_findFars_96 : decode cX12_findFars 96 = .ok (.baload, 1) := by decide +kernel
theorem dX12_findFars_97 : decode cX12_findFars 97 = .ok (.ifCond .ne 202, 3) := by decide +kernel
theorem dX12_findFars_100 : decode cX12_findFars 100 = .ok (.aload_n 0, 1) := by decide +kernel
theorem dX12_findFars_101 : decode cX12_findFars 101 = .ok (.getfield 117, 3) := by decide +kernel
theorem dX12_findFars_104 : decode cX12_findFars 104 = .ok (.iload_n 2, 1) := by decide +kernel
theorem dX12_findFars_105 : decode cX12_findFars 105 = .ok (.iaload, 1) := by decide +kernel
theorem dX12_findFars_106 : decode cX12_findFars 106 = .ok (.ldc_w 343, 3) := by decide +kernel
theorem dX12_findFars_109 : decode cX12_findFars 109 = .ok (.if_icmp .ne 6, 3) := by decide +kernel
theorem dX12_findFars_112 : decode cX12_findFars 112 = .ok (.goto 187, 3) := by decide +kernel
theorem dX12_findFars_115 : decode cX12_findFars 115 = .ok (.iconst 0, 1) := by decide +kernel
theorem dX12_findFars_116 : decode cX12_findFars 116 = .ok (.istore_n 3, 1) := by decide +kernel
theorem dX12_findFars_117 : decode cX12_findFars 117 = .ok (.iload_n 3, 1) := by decide +kernel
theorem dX12_findFars_118 : decode cX12_findFars 118 = .ok (.aload_n 0, 1) := by decide +kernel
theorem dX12_findFars_119 : decode cX12_findFars 119 = .ok (.getfield 334, 3) := by decide +kernel
theorem dX12_findFars_122 : decode cX12_findFars 122 = .ok (.if_icmp .ge 177, 3) := by decide +kernel
theorem dX12_findFars_125 : decode cX12_findFars 125 = .ok (.aload_n 0, 1) := by decide +kernel
theorem dX12_findFars_126 : decode cX12_findFars 126 = .ok (.getfield 93, 3) := by decide +kernel
theorem dX12_findFars_129 : decode cX12_findFars 129 = .ok (.bipush 48, 2) := by decide +kernel
theorem dX12_findFars_131 : decode cX12_findFars 131 = .ok (.iload_n 2, 1) := by decide +kernel
theorem dX12_findFars_132 : decode cX12_findFars 132 = .ok (.imul, 1) := by decide +kernel
theorem dX12_findFars_133 : decode cX12_findFars 133 = .ok (.iload_n 3, 1) := by decide +kernel
theorem dX12_findFars_134 : decode cX12_findFars 134 = .ok (.iadd, 1) := by decide +kernel
theorem dX12_findFars_135 : decode cX12_findFars 135 = .ok (.iaload, 1) := by decide +kernel
theorem dX12_findFars_136 : decode cX12_findFars 136 = .ok (.istore 4, 2) := by decide +kernel
theorem dX12_findFars_138 : decode cX12_findFars 138 = .ok (.iload 4, 2) := by decide +kernel
theorem dX12_findFars_140 : decode cX12_findFars 140 = .ok (.iconst (-1), 1) := by decide +kernel
theorem dX12_findFars_141 : decode cX12_findFars 141 = .ok (.if_icmp .eq 152, 3) := by decide +kernel
theorem dX12_findFars_144 : decode cX12_findFars 144 = .ok (.aload_n 0, 1) := by decide +kernel
theorem dX12_findFars_145 : decode cX12_findFars 145 = .ok (.getfield 108, 3) := by decide +kernel
theorem dX12_findFars_148 : decode cX12_findFars 148 = .ok (.iload_n 3, 1) := by decide +kernel
theorem dX12_findFars_149 : decode cX12_findFars 149 = .ok (.baload, 1) := by decide +kernel
theorem dX12_findFars_150 : decode cX12_findFars 150 = .ok (.ifCond .ne 143, 3) := by decide +kernel
theorem dX12_findFars_153 : decode cX12_findFars 153 = .ok (.aload_n 0, 1) := by decide +kernel
theorem dX12_findFars_154 : decode cX12_findFars 154 = .ok (.getfield 96, 3) := by decide +kernel
theorem dX12_findFars_157 : decode cX12_findFars 157 = .ok (.iload_n 2, 1) := by decide +kernel
theorem dX12_findFars_158 : decode cX12_findFars 158 = .ok (.iaload, 1) := by decide +kernel
theorem dX12_findFars_159 : decode cX12_findFars 159 = .ok (.iload_n 3, 1) := by decide +kernel
theorem dX12_findFars_160 : decode cX12_findFars 160 = .ok (.if_icmp .eq 133, 3) := by decide +kernel
theorem dX12_findFars_163 : decode cX12_findFars 163 = .ok (.iload_n 2, 1) := by decide +kernel
theorem dX12_findFars_164 : decode cX12_findFars 164 = .ok (.aload_n 0, 1) := by decide +kernel
theorem dX12_findFars_165 : decode cX12_findFars 165 = .ok (.getfield 111, 3) := by decide +kernel
theorem dX12_findFars_168 : decode cX12_findFars 168 = .ok (.if_icmp .ne 11, 3) := by decide +kernel
theorem dX12_findFars_171 : decode cX12_findFars 171 = .ok (.iload_n 3, 1) := by decide +kernel
theorem dX12_findFars_172 : decode cX12_findFars 172 = .ok (.aload_n 0, 1) := by decide +kernel
theorem dX12_findFars_173 : decode cX12_findFars 173 = .ok (.getfield 114, 3) := by decide +kernel
theorem dX12_findFars_176 : decode cX12_findFars 176 = .ok (.if_icmp .eq 117, 3) := by decide +kernel
theorem dX12_findFars_179 : decode cX12_findFars 179 = .ok (.aload_n 0, 1) := by decide +kernel
theorem dX12_findFars_180 : decode cX12_findFars 180 = .ok (.getfield 117, 3) := by decide +kernel
theorem dX12_findFars_183 : decode cX12_findFars 183 = .ok (.iload_n 2, 1) := by decide +kernel
theorem dX12_findFars_184 : decode cX12_findFars 184 = .ok (.iaload, 1) := by decide +kernel
theorem dX12_findFars_185 : decode cX12_findFars 185 = .ok (.iload 4, 2) := by decide +kernel
theorem dX12_findFars_187 : decode cX12_findFars 187 = .ok (.iadd, 1) := by decide +kernel
theorem dX12_findFars_188 : decode cX12_findFars 188 = .ok (.aload_n 0, 1) := by decide +kernel
theorem dX12_findFars_189 : decode cX12_findFars 189 = .ok (.getfield 120, 3) := by decide +kernel
theorem dX12_findFars_192 : decode cX12_findFars 192 = .ok (.iload_n 3, 1) := by decide +kernel
theorem dX12_findFars_193 : decode cX12_findFars 193 = .ok (.iaload, 1) := by decide +kernel
theorem dX12_findFars_194 : decode cX12_findFars 194 = .ok (.if_icmp .lt 6, 3) := by decide +kernel
theorem dX12_findFars_197 : decode cX12_findFars 197 = .ok (.goto 96, 3) := by decide +kernel
theorem dX12_findFars_200 : decode cX12_findFars 200 = .ok (.aload_n 0, 1) := by decide +kernel
theorem dX12_findFars_201 : decode cX12_findFars 201 = .ok (.getfield 120, 3) := by decide +kernel
theorem dX12_findFars_204 : decode cX12_findFars 204 = .ok (.iload_n 3, 1) := by decide +kernel
theorem dX12_findFars_205 : decode cX12_findFars 205 = .ok (.aload_n 0, 1) := by decide +kernel
theorem dX12_findFars_206 : decode cX12_findFars 206 = .ok (.getfield 117, 3) := by decide +kernel
theorem dX12_findFars_209 : decode cX12_findFars 209 = .ok (.iload_n 2, 1) := by decide +kernel
theorem dX12_findFars_210 : decode cX12_findFars 210 = .ok (.iaload, 1) := by decide +kernel
theorem dX12_findFars_211 : decode cX12_findFars 211 = .ok (.iload 4, 2) := by decide +kernel
theorem dX12_findFars_213 : decode cX12_findFars 213 = .ok (.iadd, 1) := by decide +kernel
theorem dX12_findFars_214 : decode cX12_findFars 214 = .ok (.iastore, 1) := by decide +kernel
theorem dX12_findFars_215 : decode cX12_findFars 215 = .ok (.aload_n 0, 1) := by decide +kernel
theorem dX12_findFars_216 : decode cX12_findFars 216 = .ok (.getfield 123, 3) := by decide +kernel
theorem dX12_findFars_219 : decode cX12_findFars 219 = .ok (.iload_n 3, 1) := by decide +kernel
theorem dX12_findFars_220 : decode cX12_findFars 220 = .ok (.iload_n 2, 1) := by decide +kernel
theorem dX12_findFars_221 : decode cX12_findFars 221 = .ok (.iastore, 1) := by decide +kernel
theorem dX12_findFars_222 : decode cX12_findFars 222 = .ok (.iconst 1, 1) := by decide +kernel
theorem dX12_findFars_223 : decode cX12_findFars 223 = .ok (.istore_n 1, 1) := by decide +kernel
theorem dX12_findFars_224 : decode cX12_findFars 224 = .ok (.aload_n 0, 1) := by decide +kernel
theorem dX12_findFars_225 : decode cX12_findFars 225 = .ok (.getfield 99, 3) := by decide +kernel
theorem dX12_findFars_228 : decode cX12_findFars 228 = .ok (.iload_n 3, 1) := by decide +kernel
theorem dX12_findFars_229 : decode cX12_findFars 229 = .ok (.iaload, 1) := by decide +kernel
theorem dX12_findFars_230 : decode cX12_findFars 230 = .ok (.istore 5, 2) := by decide +kernel
theorem dX12_findFars_232 : decode cX12_findFars 232 = .ok (.iload 5, 2) := by decide +kernel
theorem dX12_findFars_234 : decode cX12_findFars 234 = .ok (.iconst (-1), 1) := by decide +kernel
theorem dX12_findFars_235 : decode cX12_findFars 235 = .ok (.if_icmp .eq 58, 3) := by decide +kernel
theorem dX12_findFars_238 : decode cX12_findFars 238 = .ok (.aload_n 0, 1) := by decide +kernel
theorem dX12_findFars_239 : decode cX12_findFars 239 = .ok (.getfield 120, 3) := by decide +kernel
theorem dX12_findFars_242 : decode cX12_findFars 242 = .ok (.iload_n 3, 1) := by decide +kernel
theorem dX12_findFars_243 : decode cX12_findFars 243 = .ok (.iaload, 1) := by decide +kernel
theorem dX12_findFars_244 : decode cX12_findFars 244 = .ok (.aload_n 0, 1) := by decide +kernel
theorem dX12_findFars_245 : decode cX12_findFars 245 = .ok (.getfield 93, 3) := by decide +kernel
theorem dX12_findFars_248 : decode cX12_findFars 248 = .ok (.bipush 48, 2) := by decide +kernel
theorem dX12_findFars_250 : decode cX12_findFars 250 = .ok (.iload 5, 2) := by decide +kernel
theorem dX12_findFars_252 : decode cX12_findFars 252 = .ok (.imul, 1) := by decide +kernel
theorem dX12_findFars_253 : decode cX12_findFars 253 = .ok (.iload_n 3, 1) := by decide +kernel
theorem dX12_findFars_254 : decode cX12_findFars 254 = .ok (.iadd, 1) := by decide +kernel
theorem dX12_findFars_255 : decode cX12_findFars 255 = .ok (.iaload, 1) := by decide +kernel
theorem dX12_findFars_256 : decode cX12_findFars 256 = .ok (.isub, 1) := by decide +kernel
theorem dX12_findFars_257 : decode cX12_findFars 257 = .ok (.aload_n 0, 1) := by decide +kernel
theorem dX12_findFars_258 : decode cX12_findFars 258 = .ok (.getfield 117, 3) := by decide +kernel
theorem dX12_findFars_261 : decode cX12_findFars 261 = .ok (.iload 5, 2) := by decide +kernel
theorem dX12_findFars_263 : decode cX12_findFars 263 = .ok (.iaload, 1) := by decide +kernel
theorem dX12_findFars_264 : decode cX12_findFars 264 = .ok (.if_icmp .ge 29, 3) := by decide +kernel
theorem dX12_findFars_267 : decode cX12_findFars 267 = .ok (.aload_n 0, 1) := by decide +kernel
theorem dX12_findFars_268 : decode cX12_findFars 268 = .ok (.getfield 117, 3) := by decide +kernel
theorem dX12_findFars_271 : decode cX12_findFars 271 = .ok (.iload 5, 2) := by decide +kernel
theorem dX12_findFars_273 : decode cX12_findFars 273 = .ok (.aload_n 0, 1) := by decide +kernel
theorem dX12_findFars_274 : decode cX12_findFars 274 = .ok (.getfield 120, 3) := by decide +kernel
theorem dX12_findFars_277 : decode cX12_findFars 277 = .ok (.iload_n 3, 1) := by decide +kernel
theorem dX12_findFars_278 : decode cX12_findFars 278 = .ok (.iaload, 1) := by decide +kernel
theorem dX12_findFars_279 : decode cX12_findFars 279 = .ok (.aload_n 0, 1) := by decide +kernel
theorem dX12_findFars_280 : decode cX12_findFars 280 = .ok (.getfield 93, 3) := by decide +kernel
theorem dX12_findFars_283 : decode cX12_findFars 283 = .ok (.bipush 48, 2) := by decide +kernel
theorem dX12_findFars_285 : decode cX12_findFars 285 = .ok (.iload 5, 2) := by decide +kernel
theorem dX12_findFars_287 : decode cX12_findFars 287 = .ok (.imul, 1) := by decide +kernel
theorem dX12_findFars_288 : decode cX12_findFars 288 = .ok (.iload_n 3, 1) := by decide +kernel
theorem dX12_findFars_289 : decode cX12_findFars 289 = .ok (.iadd, 1) := by decide +kernel
theorem dX12_findFars_290 : decode cX12_findFars 290 = .ok (.iaload, 1) := by decide +kernel
theorem dX12_findFars_291 : decode cX12_findFars 291 = .ok (.isub, 1) := by decide +kernel
theorem dX12_findFars_292 : decode cX12_findFars 292 = .ok (.iastore, 1) := by decide +kernel
theorem dX12_findFars_293 : decode cX12_findFars 293 = .ok (.iinc 3 1, 3) := by decide +kernel
theorem dX12_findFars_296 : decode cX12_findFars 296 = .ok (.goto (-179), 3) := by decide +kernel
theorem dX12_findFars_299 : decode cX12_findFars 299 = .ok (.iinc 2 1, 3) := by decide +kernel
theorem dX12_findFars_302 : decode cX12_findFars 302 = .ok (.goto (-219), 3) := by decide +kernel
theorem dX12_findFars_305 : decode cX12_findFars 305 = .ok (.goto (-230), 3) := by decide +kernel
theorem dX12_findFars_308 : decode cX12_findFars 308 = .ok (.return_, 1) := by decide +kernel
theorem dX12_grows_0 : decode cX12_grows 0 = .ok (.aload_n 0, 1) := by decide +kernel
theorem dX12_grows_1 : decode cX12_grows 1 = .ok (.invokevirtual 344, 3) := by decide +kernel
theorem dX12_grows_4 : decode cX12_grows 4 = .ok (.iconst (-1), 1) := by decide +kernel
theorem dX12_grows_5 : decode cX12_grows 5 = .ok (.istore_n 1, 1) := by decide +kernel
theorem dX12_grows_6 : decode cX12_grows 6 = .ok (.iconst 0, 1) := by decide +kernel
theorem dX12_grows_7 : decode cX12_grows 7 = .ok (.istore_n 2, 1) := by decide +kernel
theorem dX12_grows_8 : decode cX12_grows 8 = .ok (.iload_n 2, 1) := by decide +kernel
theorem dX12_grows_9 : decode cX12_grows 9 = .ok (.aload_n 0, 1) := by decide +kernel
theorem dX12_grows_10 : decode cX12_grows 10 = .ok (.getfield 334, 3) := by decide +kernel
theorem dX12_grows_13 : decode cX12_grows 13 = .ok (.if_icmp .ge 62, 3) := by decide +kernel
theorem dX12_grows_16 : decode cX12_grows 16 = .ok (.aload_n 0, 1) := by decide +kernel
theorem dX12_grows_17 : decode cX12_grows 17 = .ok (.getfield 108, 3) := by decide +kernel
theorem dX12_grows_20 : decode cX12_grows 20 = .ok (.iload_n 2, 1) := by decide +kernel
theorem dX12_grows_21 : decode cX12_grows 21 = .ok (.baload, 1) := by decide +kernel
theorem dX12_grows_22 : decode cX12_grows 22 = .ok (.ifCond .ne 47, 3) := by decide +kernel
theorem dX12_grows_25 : decode cX12_grows 25 = .ok (.aload_n 0, 1) := by decide +kernel
theorem dX12_grows_26 : decode cX12_grows 26 = .ok (.getfield 99, 3) := by decide +kernel
theorem dX12_grows_29 : decode cX12_grows 29 = .ok (.iload_n 2, 1) := by decide +kernel
theorem dX12_grows_30 : decode cX12_grows 30 = .ok (.iaload, 1) := by decide +kernel
theorem dX12_grows_31 : decode cX12_grows 31 = .ok (.iconst (-1), 1) := by decide +kernel
theorem dX12_grows_32 : decode cX12_grows 32 = .ok (.if_icmp .ne 37, 3) := by decide +kernel
theorem dX12_grows_35 : decode cX12_grows 35 = .ok (.aload_n 0, 1) := by decide +kernel
theorem dX12_grows_36 : decode cX12_grows 36 = .ok (.getfield 120, 3) := by decide +kernel
theorem dX12_grows_39 : decode cX12_grows 39 = .ok (.iload_n 2, 1) := by decide +kernel
theorem dX12_grows_40 : decode cX12_grows 40 = .ok (.iaload, 1) := by decide +kernel
theorem dX12_grows_41 : decode cX12_grows 41 = .ok (.ldc_w 343, 3) := by decide +kernel
theorem dX12_grows_44 : decode cX12_grows 44 = .ok (.if_icmp .ge 25, 3) := by decide +kernel
theorem dX12_grows_47 : decode cX12_grows 47 = .ok (.iload_n 1, 1) := by decide +kernel
theorem dX12_grows_48 : decode cX12_grows 48 = .ok (.iconst (-1), 1) := by decide +kernel
theorem dX12_grows_49 : decode cX12_grows 49 = .ok (.if_icmp .eq 18, 3) := by decide +kernel
theorem dX12_grows_52 : decode cX12_grows 52 = .ok (.aload_n 0, 1) := by decide +kernel
theorem dX12_grows_53 : decode cX12_grows 53 = .ok (.getfield 120, 3) := by decide +kernel
theorem dX12_grows_56 : decode cX12_grows 56 = .ok (.iload_n 2, 1) := by decide +kernel
theorem dX12_grows_57 : decode cX12_grows 57 = .ok (.iaload, 1) := by decide +kernel
theorem dX12_grows_58 : decode cX12_grows 58 = .ok (.aload_n 0, 1) := by decide +kernel
theorem dX12_grows_59 : decode cX12_grows 59 = .ok (.getfield 120, 3) := by decide +kernel
theorem dX12_grows_62 : decode cX12_grows 62 = .ok (.iload_n 1, 1) := by decide +kernel
theorem dX12_grows_63 : decode cX12_grows 63 = .ok (.iaload, 1) := by decide +kernel
theorem dX12_grows_64 : decode cX12_grows 64 = .ok (.if_icmp .ge 5, 3) := by decide +kernel
theorem dX12_grows_67 : decode cX12_grows 67 = .ok (.iload_n 2, 1) := by decide +kernel
theorem dX12_grows_68 : decode cX12_grows 68 = .ok (.istore_n 1, 1) := by decide +kernel
theorem dX12_grows_69 : decode cX12_grows 69 = .ok (.iinc 2 1, 3) := by decide +kernel
theorem dX12_grows_72 : decode cX12_grows 72 = .ok (.goto (-64), 3) := by decide +kernel
theorem dX12_grows_75 : decode cX12_grows 75 = .ok (.iload_n 1, 1) := by decide +kernel
theorem dX12_grows_76 : decode cX12_grows 76 = .ok (.iconst (-1), 1) := by decide +kernel
theorem dX12_grows_77 : decode cX12_grows 77 = .ok (.if_icmp .ne 5, 3) := by decide +kernel
theorem dX12_grows_80 : decode cX12_grows 80 = .ok (.iconst 0, 1) := by decide +kernel
theorem dX12_grows_81 : decode cX12_grows 81 = .ok (.ireturn, 1) := by decide +kernel
theorem dX12_grows_82 : decode cX12_grows 82 = .ok (.aload_n 0, 1) := by decide +kernel
theorem dX12_grows_83 : decode cX12_grows 83 = .ok (.aload_n 0, 1) := by decide +kernel
theorem dX12_grows_84 : decode cX12_grows 84 = .ok (.getfield 340, 3) := by decide +kernel
theorem dX12_grows_87 : decode cX12_grows 87 = .ok (.aload_n 0, 1) := by decide +kernel
theorem dX12_grows_88 : decode cX12_grows 88 = .ok (.getfield 120, 3) := by decide +kernel
theorem dX12_grows_91 : decode cX12_grows 91 = .ok (.iload_n 1, 1) := by decide +kernel
theorem dX12_grows_92 : decode cX12_grows 92 = .ok (.iaload, 1) := by decide +kernel
theorem dX12_grows_93 : decode cX12_grows 93 = .ok (.iadd, 1) := by decide +kernel
theorem dX12_grows_94 : decode cX12_grows 94 = .ok (.putfield 340, 3) := by decide +kernel
theorem dX12_grows_97 : decode cX12_grows 97 = .ok (.aload_n 0, 1) := by decide +kernel
theorem dX12_grows_98 : decode cX12_grows 98 = .ok (.aload_n 0, 1) := by decide +kernel
theorem dX12_grows_99 : decode cX12_grows 99 = .ok (.getfield 337, 3) := by decide +kernel
theorem dX12_grows_102 : decode cX12_grows 102 = .ok (.iconst 1, 1) := by decide +kernel
theorem dX12_grows_103 : decode cX12_grows 103 = .ok (.iadd, 1) := by decide +kernel
theorem dX12_grows_104 : decode cX12_grows 104 = .ok (.putfield 337, 3) := by decide +kernel
theorem dX12_grows_107 : decode cX12_grows 107 = .ok (.iload_n 1, 1) := by decide +kernel
theorem dX12_grows_108 : decode cX12_grows 108 = .ok (.istore_n 2, 1) := by decide +kernel
theorem dX12_grows_109 : decode cX12_grows 109 = .ok (.iload_n 2, 1) := by decide +kernel
theorem dX12_grows_110 : decode cX12_grows 110 = .ok (.iconst (-1), 1) := by decide +kernel
theorem dX12_grows_111 : decode cX12_grows 111 = .ok (.if_icmp .eq 38, 3) := by decide +kernel
theorem dX12_grows_114 : decode cX12_grows 114 = .ok (.aload_n 0, 1) := by decide +kernel
theorem dX12_grows_115 : decode cX12_grows 115 = .ok (.getfield 123, 3) := by decide +kernel
theorem dX12_grows_118 : decode cX12_grows 118 = .ok (.iload_n 2, 1) := by decide +kernel
theorem dX12_grows_119 : decode cX12_grows 119 = .ok (.iaload, 1) := by decide +kernel
theorem dX12_grows_120 : decode cX12_grows 120 = .ok (.istore_n 3, 1) := by decide +kernel
theorem dX12_grows_121 : decode cX12_grows 121 = .ok (.aload_n 0, 1) := by decide +kernel
theorem dX12_grows_122 : decode cX12_grows 122 = .ok (.getfield 96, 3) := by decide +kernel
theorem dX12_grows_125 : decode cX12_grows 125 = .ok (.iload_n 3, 1) := by decide +kernel
theorem dX12_grows_126 : decode cX12_grows 126 = .ok (.iaload, 1) := by decide +kernel
theorem dX12_grows_127 : decode cX12_grows 127 = .ok (.istore 4, 2) := by decide +kernel
theorem dX12_grows_129 : decode cX12_grows 129 = .ok (.aload_n 0, 1) := by decide +kernel
theorem dX12_grows_130 : decode cX12_grows 130 = .ok (.getfield 96, 3) := by decide +kernel
theorem dX12_grows_133 : decode cX12_grows 133 = .ok (.iload_n 3, 1) := by decide +kernel
theorem dX12_grows_134 : decode cX12_grows 134 = .ok (.iload_n 2, 1) := by decide +kernel
theorem dX12_grows_135 : decode cX12_grows 135 = .ok (.iastore, 1) := by decide +kernel
theorem dX12_grows_136 : decode cX12_grows 136 = .ok (.aload_n 0, 1) := by decide +kernel
theorem dX12_grows_137 : decode cX12_grows 137 = .ok (.getfield 99, 3) := by decide +kernel
theorem dX12_grows_140 : decode cX12_grows 140 = .ok (.iload_n 2, 1) := by decide +kernel
theorem dX12_grows_141 : decode cX12_grows 141 = .ok (.iload_n 3, 1) := by decide +kernel
