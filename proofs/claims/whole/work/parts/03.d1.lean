theorem dX0_init_0 : decode cX0_init 0 = .ok (.aload_n 0, 1) := by decide +kernel
theorem dX0_init_1 : decode cX0_init 1 = .ok (.invokespecial 3, 3) := by decide +kernel
theorem dX0_init_4 : decode cX0_init 4 = .ok (.aload_n 0, 1) := by decide +kernel
theorem dX0_init_5 : decode cX0_init 5 = .ok (.iconst 0, 1) := by decide +kernel
theorem dX0_init_6 : decode cX0_init 6 = .ok (.putfield 9, 3) := by decide +kernel
theorem dX0_init_9 : decode cX0_init 9 = .ok (.aload_n 0, 1) := by decide +kernel
theorem dX0_init_10 : decode cX0_init 10 = .ok (.bipush 16, 2) := by decide +kernel
theorem dX0_init_12 : decode cX0_init 12 = .ok (.newarray .int, 2) := by decide +kernel
theorem dX0_init_14 : decode cX0_init 14 = .ok (.putfield 15, 3) := by decide +kernel
theorem dX0_init_17 : decode cX0_init 17 = .ok (.aload_n 0, 1) := by decide +kernel
theorem dX0_init_18 : decode cX0_init 18 = .ok (.bipush 16, 2) := by decide +kernel
theorem dX0_init_20 : decode cX0_init 20 = .ok (.newarray .int, 2) := by decide +kernel
theorem dX0_init_22 : decode cX0_init 22 = .ok (.putfield 19, 3) := by decide +kernel
theorem dX0_init_25 : decode cX0_init 25 = .ok (.aload_n 0, 1) := by decide +kernel
theorem dX0_init_26 : decode cX0_init 26 = .ok (.iconst (-1), 1) := by decide +kernel
theorem dX0_init_27 : decode cX0_init 27 = .ok (.putfield 22, 3) := by decide +kernel
theorem dX0_init_30 : decode cX0_init 30 = .ok (.aload_n 0, 1) := by decide +kernel
theorem dX0_init_31 : decode cX0_init 31 = .ok (.iconst (-1), 1) := by decide +kernel
theorem dX0_init_32 : decode cX0_init 32 = .ok (.putfield 25, 3) := by decide +kernel
theorem dX0_init_35 : decode cX0_init 35 = .ok (.aload_n 0, 1) := by decide +kernel
theorem dX0_init_36 : decode cX0_init 36 = .ok (.iconst 0, 1) := by decide +kernel
theorem dX0_init_37 : decode cX0_init 37 = .ok (.putfield 28, 3) := by decide +kernel
theorem dX0_init_40 : decode cX0_init 40 = .ok (.return_, 1) := by decide +kernel
theorem dX0_begin_0 : decode cX0_begin 0 = .ok (.aload_n 0, 1) := by decide +kernel
theorem dX0_begin_1 : decode cX0_begin 1 = .ok (.iconst 0, 1) := by decide +kernel
theorem dX0_begin_2 : decode cX0_begin 2 = .ok (.putfield 9, 3) := by decide +kernel
theorem dX0_begin_5 : decode cX0_begin 5 = .ok (.return_, 1) := by decide +kernel
theorem dX0_addSpan_0 : decode cX0_addSpan 0 = .ok (.aload_n 0, 1) := by decide +kernel
theorem dX0_addSpan_1 : decode cX0_addSpan 1 = .ok (.getfield 9, 3) := by decide +kernel
theorem dX0_addSpan_4 : decode cX0_addSpan 4 = .ok (.bipush 16, 2) := by decide +kernel
theorem dX0_addSpan_6 : decode cX0_addSpan 6 = .ok (.if_icmp .ge 33, 3) := by decide +kernel
theorem dX0_addSpan_9 : decode cX0_addSpan 9 = .ok (.aload_n 0, 1) := by decide +kernel
theorem dX0_addSpan_10 : decode cX0_addSpan 10 = .ok (.getfield 15, 3) := by decide +kernel
theorem dX0_addSpan_13 : decode cX0_addSpan 13 = .ok (.aload_n 0, 1) := by decide +kernel
theorem dX0_addSpan_14 : decode cX0_addSpan 14 = .ok (.getfield 9, 3) := by decide +kernel
theorem dX0_addSpan_17 : decode cX0_addSpan 17 = .ok (.iload_n 1, 1) := by decide +kernel
theorem dX0_addSpan_18 : decode cX0_addSpan 18 = .ok (.iastore, 1) := by decide +kernel
theorem dX0_addSpan_19 : decode cX0_addSpan 19 = .ok (.aload_n 0, 1) := by decide +kernel
theorem dX0_addSpan_20 : decode cX0_addSpan 20 = .ok (.getfield 19, 3) := by decide +kernel
theorem dX0_addSpan_23 : decode cX0_addSpan 23 = .ok (.aload_n 0, 1) := by decide +kernel
theorem dX0_addSpan_24 : decode cX0_addSpan 24 = .ok (.getfield 9, 3) := by decide +kernel
theorem dX0_addSpan_27 : decode cX0_addSpan 27 = .ok (.iload_n 2, 1) := by decide +kernel
theorem dX0_addSpan_28 : decode cX0_addSpan 28 = .ok (.iastore, 1) := by decide +kernel
theorem dX0_addSpan_29 : decode cX0_addSpan 29 = .ok (.aload_n 0, 1) := by decide +kernel
theorem dX0_addSpan_30 : decode cX0_addSpan 30 = .ok (.dup, 1) := by decide +kernel
theorem dX0_addSpan_31 : decode cX0_addSpan 31 = .ok (.getfield 9, 3) := by decide +kernel
theorem dX0_addSpan_34 : decode cX0_addSpan 34 = .ok (.iconst 1, 1) := by decide +kernel
theorem dX0_addSpan_35 : decode cX0_addSpan 35 = .ok (.iadd, 1) := by decide +kernel
theorem dX0_addSpan_36 : decode cX0_addSpan 36 = .ok (.putfield 9, 3) := by decide +kernel
theorem dX0_addSpan_39 : decode cX0_addSpan 39 = .ok (.return_, 1) := by decide +kernel
theorem dX0_settle_0 : decode cX0_settle 0 = .ok (.aload_n 0, 1) := by decide +kernel
theorem dX0_settle_1 : decode cX0_settle 1 = .ok (.iconst 0, 1) := by decide +kernel
theorem dX0_settle_2 : decode cX0_settle 2 = .ok (.putfield 28, 3) := by decide +kernel
theorem dX0_settle_5 : decode cX0_settle 5 = .ok (.aload_n 0, 1) := by decide +kernel
theorem dX0_settle_6 : decode cX0_settle 6 = .ok (.iconst (-1), 1) := by decide +kernel
theorem dX0_settle_7 : decode cX0_settle 7 = .ok (.putfield 22, 3) := by decide +kernel
theorem dX0_settle_10 : decode cX0_settle 10 = .ok (.aload_n 0, 1) := by decide +kernel
theorem dX0_settle_11 : decode cX0_settle 11 = .ok (.iconst (-1), 1) := by decide +kernel
theorem dX0_settle_12 : decode cX0_settle 12 = .ok (.putfield 25, 3) := by decide +kernel
theorem dX0_settle_15 : decode cX0_settle 15 = .ok (.iconst 0, 1) := by decide +kernel
theorem dX0_settle_16 : decode cX0_settle 16 = .ok (.istore_n 1, 1) := by decide +kernel
theorem dX0_settle_17 : decode cX0_settle 17 = .ok (.iload_n 1, 1) := by decide +kernel
theorem dX0_settle_18 : decode cX0_settle 18 = .ok (.sipush 999, 3) := by decide +kernel
theorem dX0_settle_21 : decode cX0_settle 21 = .ok (.if_icmp .gt 71, 3) := by decide +kernel
theorem dX0_settle_24 : decode cX0_settle 24 = .ok (.aload_n 0, 1) := by decide +kernel
theorem dX0_settle_25 : decode cX0_settle 25 = .ok (.iload_n 1, 1) := by decide +kernel
theorem dX0_settle_26 : decode cX0_settle 26 = .ok (.invokevirtual 31, 3) := by decide +kernel
theorem dX0_settle_29 : decode cX0_settle 29 = .ok (.istore_n 2, 1) := by decide +kernel
theorem dX0_settle_30 : decode cX0_settle 30 = .ok (.iload_n 2, 1) := by decide +kernel
theorem dX0_settle_31 : decode cX0_settle 31 = .ok (.aload_n 0, 1) := by decide +kernel
theorem dX0_settle_32 : decode cX0_settle 32 = .ok (.getfield 28, 3) := by decide +kernel
theorem dX0_settle_35 : decode cX0_settle 35 = .ok (.if_icmp .le 21, 3) := by decide +kernel
theorem dX0_settle_38 : decode cX0_settle 38 = .ok (.aload_n 0, 1) := by decide +kernel
theorem dX0_settle_39 : decode cX0_settle 39 = .ok (.iload_n 2, 1) := by decide +kernel
theorem dX0_settle_40 : decode cX0_settle 40 = .ok (.putfield 28, 3) := by decide +kernel
theorem dX0_settle_43 : decode cX0_settle 43 = .ok (.aload_n 0, 1) := by decide +kernel
theorem dX0_settle_44 : decode cX0_settle 44 = .ok (.iload_n 1, 1) := by decide +kernel
theorem dX0_settle_45 : decode cX0_settle 45 = .ok (.putfield 22, 3) := by decide +kernel
theorem dX0_settle_48 : decode cX0_settle 48 = .ok (.aload_n 0, 1) := by decide +kernel
theorem dX0_settle_49 : decode cX0_settle 49 = .ok (.iload_n 1, 1) := by decide +kernel
theorem dX0_settle_50 : decode cX0_settle 50 = .ok (.putfield 25, 3) := by decide +kernel
theorem dX0_settle_53 : decode cX0_settle 53 = .ok (.goto 33, 3) := by decide +kernel
theorem dX0_settle_56 : decode cX0_settle 56 = .ok (.iload_n 2, 1) := by decide +kernel
theorem dX0_settle_57 : decode cX0_settle 57 = .ok (.aload_n 0, 1) := by decide +kernel
theorem dX0_settle_58 : decode cX0_settle 58 = .ok (.getfield 28, 3) := by decide +kernel
theorem dX0_settle_61 : decode cX0_settle 61 = .ok (.if_icmp .ne 25, 3) := by decide +kernel
theorem dX0_settle_64 : decode cX0_settle 64 = .ok (.aload_n 0, 1) := by decide +kernel
theorem dX0_settle_65 : decode cX0_settle 65 = .ok (.getfield 28, 3) := by decide +kernel
theorem dX0_settle_68 : decode cX0_settle 68 = .ok (.ifCond .le 18, 3) := by decide +kernel
theorem dX0_settle_71 : decode cX0_settle 71 = .ok (.aload_n 0, 1) := by decide +kernel
theorem dX0_settle_72 : decode cX0_settle 72 = .ok (.getfield 25, 3) := by decide +kernel
theorem dX0_settle_75 : decode cX0_settle 75 = .ok (.iload_n 1, 1) := by decide +kernel
theorem dX0_settle_76 : decode cX0_settle 76 = .ok (.iconst 1, 1) := by decide +kernel
theorem dX0_settle_77 : decode cX0_settle 77 = .ok (.isub, 1) := by decide +kernel
theorem dX0_settle_78 : decode cX0_settle 78 = .ok (.if_icmp .ne 8, 3) := by decide +kernel
theorem dX0_settle_81 : decode cX0_settle 81 = .ok (.aload_n 0, 1) := by decide +kernel
theorem dX0_settle_82 : decode cX0_settle 82 = .ok (.iload_n 1, 1) := by decide +kernel
theorem dX0_settle_83 : decode cX0_settle 83 = .ok (.putfield 25, 3) := by decide +kernel
theorem dX0_settle_86 : decode cX0_settle 86 = .ok (.iinc 1 1, 3) := by decide +kernel
theorem dX0_settle_89 : decode cX0_settle 89 = .ok (.goto (-72), 3) := by decide +kernel
theorem dX0_settle_92 : decode cX0_settle 92 = .ok (.return_, 1) := by decide +kernel
theorem dX0_spansIn_0 : decode cX0_spansIn 0 = .ok (.iconst 0, 1) := by decide +kernel
theorem dX0_spansIn_1 : decode cX0_spansIn 1 = .ok (.istore_n 2, 1) := by decide +kernel
theorem dX0_spansIn_2 : decode cX0_spansIn 2 = .ok (.iconst 0, 1) := by decide +kernel
theorem dX0_spansIn_3 : decode cX0_spansIn 3 = .ok (.istore_n 3, 1) := by decide +kernel
theorem dX0_spansIn_4 : decode cX0_spansIn 4 = .ok (.iload_n 3, 1) := by decide +kernel
theorem dX0_spansIn_5 : decode cX0_spansIn 5 = .ok (.aload_n 0, 1) := by decide +kernel
theorem dX0_spansIn_6 : decode cX0_spansIn 6 = .ok (.getfield 9, 3) := by decide +kernel
theorem dX0_spansIn_9 : decode cX0_spansIn 9 = .ok (.if_icmp .ge 38, 3) := by decide +kernel
theorem dX0_spansIn_12 : decode cX0_spansIn 12 = .ok (.iload_n 3, 1) := by decide +kernel
theorem dX0_spansIn_13 : decode cX0_spansIn 13 = .ok (.bipush 16, 2) := by decide +kernel
theorem dX0_spansIn_15 : decode cX0_spansIn 15 = .ok (.if_icmp .ge 32, 3) := by decide +kernel
theorem dX0_spansIn_18 : decode cX0_spansIn 18 = .ok (.aload_n 0, 1) := by decide +kernel
theorem dX0_spansIn_19 : decode cX0_spansIn 19 = .ok (.getfield 15, 3) := by decide +kernel
theorem dX0_spansIn_22 : decode cX0_spansIn 22 = .ok (.iload_n 3, 1) := by decide +kernel
theorem dX0_spansIn_23 : decode cX0_spansIn 23 = .ok (.iaload, 1) := by decide +kernel
theorem dX0_spansIn_24 : decode cX0_spansIn 24 = .ok (.iload_n 1, 1) := by decide +kernel
theorem dX0_spansIn_25 : decode cX0_spansIn 25 = .ok (.if_icmp .gt 16, 3) := by decide +kernel
theorem dX0_spansIn_28 : decode cX0_spansIn 28 = .ok (.iload_n 1, 1) := by decide +kernel
theorem dX0_spansIn_29 : decode cX0_spansIn 29 = .ok (.aload_n 0, 1) := by decide +kernel
theorem dX0_spansIn_30 : decode cX0_spansIn 30 = .ok (.getfield 19, 3) := by decide +kernel
theorem dX0_spansIn_33 : decode cX0_spansIn 33 = .ok (.iload_n 3, 1) := by decide +kernel
theorem dX0_spansIn_34 : decode cX0_spansIn 34 = .ok (.iaload, 1) := by decide +kernel
theorem dX0_spansIn_35 : decode cX0_spansIn 35 = .ok (.if_icmp .gt 6, 3) := by decide +kernel
theorem dX0_spansIn_38 : decode cX0_spansIn 38 = .ok (.iinc 2 1, 3) := by decide +kernel
theorem dX0_spansIn_41 : decode cX0_spansIn 41 = .ok (.iinc 3 1, 3) := by decide +kernel
theorem dX0_spansIn_44 : decode cX0_spansIn 44 = .ok (.goto (-40), 3) := by decide +kernel
theorem dX0_spansIn_47 : decode cX0_spansIn 47 = .ok (.iload_n 2, 1) := by decide +kernel
theorem dX0_spansIn_48 : decode cX0_spansIn 48 = .ok (.ireturn, 1) := by decide +kernel
theorem dX0_found_0 : decode cX0_found 0 = .ok (.iload_n 1, 1) := by decide +kernel
theorem dX0_found_1 : decode cX0_found 1 = .ok (.tableswitch 56 0 3 #[31, 36, 41, 51], 31) := by decide +kernel
theorem dX0_found_32 : decode cX0_found 32 = .ok (.aload_n 0, 1) := by decide +kernel
theorem dX0_found_33 : decode cX0_found 33 = .ok (.getfield 22, 3) := by decide +kernel
theorem dX0_found_36 : decode cX0_found 36 = .ok (.ireturn, 1) := by decide +kernel
theorem dX0_found_37 : decode cX0_found 37 = .ok (.aload_n 0, 1) := by decide +kernel
theorem dX0_found_38 : decode cX0_found 38 = .ok (.getfield 25, 3) := by decide +kernel
theorem dX0_found_41 : decode cX0_found 41 = .ok (.ireturn, 1) := by decide +kernel
theorem dX0_found_42 : decode cX0_found 42 = .ok (.aload_n 0, 1) := by decide +kernel
theorem dX0_found_43 : decode cX0_found 43 = .ok (.getfield 9, 3) := by decide +kernel
theorem dX0_found_46 : decode cX0_found 46 = .ok (.aload_n 0, 1) := by decide +kernel
theorem dX0_found_47 : decode cX0_found 47 = .ok (.getfield 28, 3) := by decide +kernel
theorem dX0_found_50 : decode cX0_found 50 = .ok (.isub, 1) := by decide +kernel
theorem dX0_found_51 : decode cX0_found 51 = .ok (.ireturn, 1) := by decide +kernel
theorem dX0_found_52 : decode cX0_found 52 = .ok (.aload_n 0, 1) := by decide +kernel
theorem dX0_found_53 : decode cX0_found 53 = .ok (.getfield 9, 3) := by decide +kernel
theorem dX0_found_56 : decode cX0_found 56 = .ok (.ireturn, 1) := by decide +kernel
theorem dX0_found_57 : decode cX0_found 57 = .ok (.iconst (-1), 1) := by decide +kernel
theorem dX0_found_58 : decode cX0_found 58 = .ok (.ireturn, 1) := by decide +kernel
theorem dX1_init_0 : decode cX1_init 0 = .ok (.aload_n 0, 1) := by decide +kernel
theorem dX1_init_1 : decode cX1_init 1 = .ok (.invokespecial 3, 3) := by decide +kernel
theorem dX1_init_4 : decode cX1_init 4 = .ok (.aload_n 0, 1) := by decide +kernel
theorem dX1_init_5 : decode cX1_init 5 = .ok (.invokevirtual 9, 3) := by decide +kernel
theorem dX1_init_8 : decode cX1_init 8 = .ok (.return_, 1) := by decide +kernel
theorem dX1_reset_0 : decode cX1_reset 0 = .ok (.aload_n 0, 1) := by decide +kernel
theorem dX1_reset_1 : decode cX1_reset 1 = .ok (.iconst 3, 1) := by decide +kernel
theorem dX1_reset_2 : decode cX1_reset 2 = .ok (.putfield 14, 3) := by decide +kernel
theorem dX1_reset_5 : decode cX1_reset 5 = .ok (.aload_n 0, 1) := by decide +kernel
theorem dX1_reset_6 : decode cX1_reset 6 = .ok (.iconst 0, 1) := by decide +kernel
theorem dX1_reset_7 : decode cX1_reset 7 = .ok (.putfield 18, 3) := by decide +kernel
theorem dX1_reset_10 : decode cX1_reset 10 = .ok (.aload_n 0, 1) := by decide +kernel
theorem dX1_reset_11 : decode cX1_reset 11 = .ok (.iconst 1, 1) := by decide +kernel
theorem dX1_reset_12 : decode cX1_reset 12 = .ok (.putfield 22, 3) := by decide +kernel
theorem dX1_reset_15 : decode cX1_reset 15 = .ok (.aload_n 0, 1) := by decide +kernel
theorem dX1_reset_16 : decode cX1_reset 16 = .ok (.iconst 2, 1) := by decide +kernel
theorem dX1_reset_17 : decode cX1_reset 17 = .ok (.putfield 25, 3) := by decide +kernel
theorem dX1_reset_20 : decode cX1_reset 20 = .ok (.aload_n 0, 1) := by decide +kernel
theorem dX1_reset_21 : decode cX1_reset 21 = .ok (.bipush 60, 2) := by decide +kernel
theorem dX1_reset_23 : decode cX1_reset 23 = .ok (.putfield 28, 3) := by decide +kernel
theorem dX1_reset_26 : decode cX1_reset 26 = .ok (.aload_n 0, 1) := by decide +kernel
theorem dX1_reset_27 : decode cX1_reset 27 = .ok (.iconst 1, 1) := by decide +kernel
theorem dX1_reset_28 : decode cX1_reset 28 = .ok (.putfield 31, 3) := by decide +kernel
theorem dX1_reset_31 : decode cX1_reset 31 = .ok (.aload_n 0, 1) := by decide +kernel
theorem dX1_reset_32 : decode cX1_reset 32 = .ok (.bipush 10, 2) := by decide +kernel
theorem dX1_reset_34 : decode cX1_reset 34 = .ok (.putfield 34, 3) := by decide +kernel
theorem dX1_reset_37 : decode cX1_reset 37 = .ok (.aload_n 0, 1) := by decide +kernel
theorem dX1_reset_38 : decode cX1_reset 38 = .ok (.bipush 30, 2) := by decide +kernel
theorem dX1_reset_40 : decode cX1_reset 40 = .ok (.putfield 37, 3) := by decide +kernel
theorem dX1_reset_43 : decode cX1_reset 43 = .ok (.aload_n 0, 1) := by decide +kernel
theorem dX1_reset_44 : decode cX1_reset 44 = .ok (.iconst 2, 1) := by decide +kernel
theorem dX1_reset_45 : decode cX1_reset 45 = .ok (.putfield 40, 3) := by decide +kernel
theorem dX1_reset_48 : decode cX1_reset 48 = .ok (.aload_n 0, 1) := by decide +kernel
theorem dX1_reset_49 : decode cX1_reset 49 = .ok (.iconst 0, 1) := by decide +kernel
theorem dX1_reset_50 : decode cX1_reset 50 = .ok (.putfield 43, 3) := by decide +kernel
theorem dX1_reset_53 : decode cX1_reset 53 = .ok (.aload_n 0, 1) := by decide +kernel
theorem dX1_reset_54 : decode cX1_reset 54 = .ok (.iconst 0, 1) := by decide +kernel
theorem dX1_reset_55 : decode cX1_reset 55 = .ok (.putfield 46, 3) := by decide +kernel
theorem dX1_reset_58 : decode cX1_reset 58 = .ok (.return_, 1) := by decide +kernel
theorem dX1_tellInto_0 : decode cX1_tellInto 0 = .ok (.aload_n 0, 1) := by decide +kernel
theorem dX1_tellInto_1 : decode cX1_tellInto 1 = .ok (.dup, 1) := by decide +kernel
theorem dX1_tellInto_2 : decode cX1_tellInto 2 = .ok (.getfield 43, 3) := by decide +kernel
theorem dX1_tellInto_5 : decode cX1_tellInto 5 = .ok (.iconst 1, 1) := by decide +kernel
theorem dX1_tellInto_6 : decode cX1_tellInto 6 = .ok (.iconst 4, 1) := by decide +kernel
theorem dX1_tellInto_7 : decode cX1_tellInto 7 = .ok (.iload_n 1, 1) := by decide +kernel
theorem dX1_tellInto_8 : decode cX1_tellInto 8 = .ok (.imul, 1) := by decide +kernel
theorem dX1_tellInto_9 : decode cX1_tellInto 9 = .ok (.iload_n 2, 1) := by decide +kernel
theorem dX1_tellInto_10 : decode cX1_tellInto 10 = .ok (.iadd, 1) := by decide +kernel
theorem dX1_tellInto_11 : decode cX1_tellInto 11 = .ok (.ishl, 1) := by decide +kernel
theorem dX1_tellInto_12 : decode cX1_tellInto 12 = .ok (.ior, 1) := by decide +kernel
theorem dX1_tellInto_13 : decode cX1_tellInto 13 = .ok (.putfield 43, 3) := by decide +kernel
theorem dX1_tellInto_16 : decode cX1_tellInto 16 = .ok (.return_, 1) := by decide +kernel
theorem dX1_tellAhead_0 : decode cX1_tellAhead 0 = .ok (.aload_n 0, 1) := by decide +kernel
theorem dX1_tellAhead_1 : decode cX1_tellAhead 1 = .ok (.dup, 1) := by decide +kernel
theorem dX1_tellAhead_2 : decode cX1_tellAhead 2 = .ok (.getfield 46, 3) := by decide +kernel
theorem dX1_tellAhead_5 : decode cX1_tellAhead 5 = .ok (.iconst 1, 1) := by decide +kernel
theorem dX1_tellAhead_6 : decode cX1_tellAhead 6 = .ok (.iconst 4, 1) := by decide +kernel
theorem dX1_tellAhead_7 : decode cX1_tellAhead 7 = .ok (.iload_n 1, 1) := by decide +kernel
theorem dX1_tellAhead_8 : decode cX1_tellAhead 8 = .ok (.imul, 1) := by decide +kernel
theorem dX1_tellAhead_9 : decode cX1_tellAhead 9 = .ok (.iload_n 2, 1) := by decide +kernel
theorem dX1_tellAhead_10 : decode cX1_tellAhead 10 = .ok (.iadd, 1) := by decide +kernel
theorem dX1_tellAhead_11 : decode cX1_tellAhead 11 = .ok (.ishl, 1) := by decide +kernel
theorem dX1_tellAhead_12 : decode cX1_tellAhead 12 = .ok (.ior, 1) := by decide +kernel
theorem dX1_tellAhead_13 : decode cX1_tellAhead 13 = .ok (.putfield 46, 3) := by decide +kernel
theorem dX1_tellAhead_16 : decode cX1_tellAhead 16 = .ok (.return_, 1) := by decide +kernel
theorem dX1_goesInto_0 : decode cX1_goesInto 0 = .ok (.aload_n 0, 1) := by decide +kernel
theorem dX1_goesInto_1 : decode cX1_goesInto 1 = .ok (.getfield 43, 3) := by decide +kernel
theorem dX1_goesInto_4 : decode cX1_goesInto 4 = .ok (.iconst 4, 1) := by decide +kernel
theorem dX1_goesInto_5 : decode cX1_goesInto 5 = .ok (.iload_n 1, 1) := by decide +kernel
theorem dX1_goesInto_6 : decode cX1_goesInto 6 = .ok (.imul, 1) := by decide +kernel
theorem dX1_goesInto_7 : decode cX1_goesInto 7 = .ok (.iload_n 2, 1) := by decide +kernel
theorem dX1_goesInto_8 : decode cX1_goesInto 8 = .ok (.iadd, 1) := by decide +kernel
theorem dX1_goesInto_9 : decode cX1_goesInto 9 = .ok (.ishr, 1) := by decide +kernel
theorem dX1_goesInto_10 : decode cX1_goesInto 10 = .ok (.iconst 1, 1) := by decide +kernel
theorem dX1_goesInto_11 : decode cX1_goesInto 11 = .ok (.iand, 1) := by decide +kernel
theorem dX1_goesInto_12 : decode cX1_goesInto 12 = .ok (.iconst 1, 1) := by decide +kernel
theorem dX1_goesInto_13 : decode cX1_goesInto 13 = .ok (.if_icmp .ne 7, 3) := by decide +kernel
theorem dX1_goesInto_16 : decode cX1_goesInto 16 = .ok (.iconst 1, 1) := by decide +kernel
theorem dX1_goesInto_17 : decode cX1_goesInto 17 = .ok (.goto 4, 3) := by decide +kernel
theorem dX1_goesInto_20 : decode cX1_goesInto 20 = .ok (.iconst 0, 1) := by decide +kernel
theorem dX1_goesInto_21 : decode cX1_goesInto 21 = .ok (.ireturn, 1) := by decide +kernel
theorem dX1_isAhead_0 : decode cX1_isAhead 0 = .ok (.aload_n 0, 1) := by decide +kernel
theorem dX1_isAhead_1 : decode cX1_isAhead 1 = .ok (.getfield 46, 3) := by decide +kernel
theorem dX1_isAhead_4 : decode cX1_isAhead 4 = .ok (.iconst 4, 1) := by decide +kernel
theorem dX1_isAhead_5 : decode cX1_isAhead 5 = .ok (.iload_n 1, 1) := by decide +kernel
theorem dX1_isAhead_6 : decode cX1_isAhead 6 = .ok (.imul, 1) := by decide +kernel
theorem dX1_isAhead_7 : decode cX1_isAhead 7 = .ok (.iload_n 2, 1) := by decide +kernel
theorem dX1_isAhead_8 : decode cX1_isAhead 8 = .ok (.iadd, 1) := by decide +kernel
theorem dX1_isAhead_9 : decode cX1_isAhead 9 = .ok (.ishr, 1) := by decide +kernel
theorem dX1_isAhead_10 : decode cX1_isAhead 10 = .ok (.iconst 1, 1) := by decide +kernel
theorem dX1_isAhead_11 : decode cX1_isAhead 11 = .ok (.iand, 1) := by decide +kernel
theorem dX1_isAhead_12 : decode cX1_isAhead 12 = .ok (.iconst 1, 1) := by decide +kernel
theorem dX1_isAhead_13 : decode cX1_isAhead 13 = .ok (.if_icmp .ne 22, 3) := by decide +kernel
theorem dX1_isAhead_16 : decode cX1_isAhead 16 = .ok (.aload_n 0, 1) := by decide +kernel
theorem dX1_isAhead_17 : decode cX1_isAhead 17 = .ok (.getfield 46, 3) := by decide +kernel
theorem dX1_isAhead_20 : decode cX1_isAhead 20 = .ok (.iconst 4, 1) := by decide +kernel
theorem dX1_isAhead_21 : decode cX1_isAhead 21 = .ok (.iload_n 2, 1) := by decide +kernel
theorem dX1_isAhead_22 : decode cX1_isAhead 22 = .ok (.imul, 1) := by decide +kernel
theorem dX1_isAhead_23 : decode cX1_isAhead 23 = .ok (.iload_n 1, 1) := by decide +kernel
theorem dX1_isAhead_24 : decode cX1_isAhead 24 = .ok (.iadd, 1) := by decide +kernel
theorem dX1_isAhead_25 : decode cX1_isAhead 25 = .ok (.ishr, 1) := by decide +kernel
theorem dX1_isAhead_26 : decode cX1_isAhead 26 = .ok (.iconst 1, 1) := by decide +kernel
theorem dX1_isAhead_27 : decode cX1_isAhead 27 = .ok (.iand, 1) := by decide +kernel
theorem dX1_isAhead_28 : decode cX1_isAhead 28 = .ok (.ifCond .ne 7, 3) := by decide +kernel
theorem dX1_isAhead_31 : decode cX1_isAhead 31 = .ok (.iconst 1, 1) := by decide +kernel
theorem dX1_isAhead_32 : decode cX1_isAhead 32 = .ok (.goto 4, 3) := by decide +kernel
theorem dX1_isAhead_35 : decode cX1_isAhead 35 = .ok (.iconst 0, 1) := by decide +kernel
theorem dX1_isAhead_36 : decode cX1_isAhead 36 = .ok (.ireturn, 1) := by decide +kernel
theorem dX1_value_0 : decode cX1_value 0 = .ok (.iload_n 1, 1) := by decide +kernel
theorem dX1_value_1 : decode cX1_value 1 = .ok (.tableswitch 104 0 8 #[51, 56, 69, 74, 79, 84, 89, 94, 99], 51) := by decide +kernel
theorem dX1_value_52 : decode cX1_value 52 = .ok (.aload_n 0, 1) := by decide +kernel
theorem dX1_value_53 : decode cX1_value 53 = .ok (.getfield 14, 3) := by decide +kernel
theorem dX1_value_56 : decode cX1_value 56 = .ok (.ireturn, 1) := by decide +kernel
theorem dX1_value_57 : decode cX1_value 57 = .ok (.aload_n 0, 1) := by decide +kernel
theorem dX1_value_58 : decode cX1_value 58 = .ok (.getfield 18, 3) := by decide +kernel
theorem dX1_value_61 : decode cX1_value 61 = .ok (.ifCond .eq 7, 3) := by decide +kernel
theorem dX1_value_64 : decode cX1_value 64 = .ok (.iconst 1, 1) := by decide +kernel
theorem dX1_value_65 : decode cX1_value 65 = .ok (.goto 4, 3) := by decide +kernel
theorem dX1_value_68 : decode cX1_value 68 = .ok (.iconst 0, 1) := by decide +kernel
theorem dX1_value_69 : decode cX1_value 69 = .ok (.ireturn, 1) := by decide +kernel
theorem dX1_value_70 : decode cX1_value 70 = .ok (.aload_n 0, 1) := by decide +kernel
theorem dX1_value_71 : decode cX1_value 71 = .ok (.getfield 22, 3) := by decide +kernel
theorem dX1_value_74 : decode cX1_value 74 = .ok (.ireturn, 1) := by decide +kernel
theorem dX1_value_75 : decode cX1_value 75 = .ok (.aload_n 0, 1) := by decide +kernel
theorem dX1_value_76 : decode cX1_value 76 = .ok (.getfield 25, 3) := by decide +kernel
theorem dX1_value_79 : decode cX1_value 79 = .ok (.ireturn, 1) := by decide +kernel
theorem dX1_value_80 : decode cX1_value 80 = .ok (.aload_n 0, 1) := by decide +kernel
theorem dX1_value_81 : decode cX1_value 81 = .ok (.getfield 28, 3) := by decide +kernel
theorem dX1_value_84 : decode cX1_value 84 = .ok (.ireturn, 1) := by decide +kernel
theorem dX1_value_85 : decode cX1_value 85 = .ok (.aload_n 0, 1) := by decide +kernel
theorem dX1_value_86 : decode cX1_value 86 = .ok (.getfield 31, 3) := by decide +kernel
theorem dX1_value_89 : decode cX1_value 89 = .ok (.ireturn, 1) := by decide +kernel
theorem dX1_value_90 : decode cX1_value 90 = .ok (.aload_n 0, 1) := by decide +kernel
theorem dX1_value_91 : decode cX1_value 91 = .ok (.getfield 34, 3) := by decide +kernel
theorem dX1_value_94 : decode cX1_value 94 = .ok (.ireturn, 1) := by decide +kernel
theorem dX1_value_95 : decode cX1_value 95 = .ok (.aload_n 0, 1) := by decide +kernel
theorem dX1_value_96 : decode cX1_value 96 = .ok (.getfield 37, 3) := by decide +kernel
theorem dX1_value_99 : decode cX1_value 99 = .ok (.ireturn, 1) := by decide +kernel
theorem dX1_value_100 : decode cX1_value 100 = .ok (.aload_n 0, 1) := by decide +kernel
theorem dX1_value_101 : decode cX1_value 101 = .ok (.getfield 40, 3) := by decide +kernel
theorem dX1_value_104 : decode cX1_value 104 = .ok (.ireturn, 1) := by decide +kernel
theorem dX1_value_105 : decode cX1_value 105 = .ok (.aload_n 0, 1) := by decide +kernel
theorem dX1_value_106 : decode cX1_value 106 = .ok (.iload_n 1, 1) := by decide +kernel
theorem dX1_value_107 : decode cX1_value 107 = .ok (.invokevirtual 49, 3) := by decide +kernel
theorem dX1_value_110 : decode cX1_value 110 = .ok (.ireturn, 1) := by decide +kernel
theorem dX1_kindValue_0 : decode cX1_kindValue 0 = .ok (.iload_n 1, 1) := by decide +kernel
theorem dX1_kindValue_1 : decode cX1_kindValue 1 = .ok (.bipush 10, 2) := by decide +kernel
theorem dX1_kindValue_3 : decode cX1_kindValue 3 = .ok (.if_icmp .lt 34, 3) := by decide +kernel
theorem dX1_kindValue_6 : decode cX1_kindValue 6 = .ok (.iload_n 1, 1) := by decide +kernel
theorem dX1_kindValue_7 : decode cX1_kindValue 7 = .ok (.bipush 26, 2) := by decide +kernel
theorem dX1_kindValue_9 : decode cX1_kindValue 9 = .ok (.if_icmp .ge 28, 3) := by decide +kernel
theorem dX1_kindValue_12 : decode cX1_kindValue 12 = .ok (.aload_n 0, 1) := by decide +kernel
theorem dX1_kindValue_13 : decode cX1_kindValue 13 = .ok (.iload_n 1, 1) := by decide +kernel
theorem dX1_kindValue_14 : decode cX1_kindValue 14 = .ok (.bipush 10, 2) := by decide +kernel
theorem dX1_kindValue_16 : decode cX1_kindValue 16 = .ok (.isub, 1) := by decide +kernel
theorem dX1_kindValue_17 : decode cX1_kindValue 17 = .ok (.iconst 4, 1) := by decide +kernel
theorem dX1_kindValue_18 : decode cX1_kindValue 18 = .ok (.idiv, 1) := by decide +kernel
theorem dX1_kindValue_19 : decode cX1_kindValue 19 = .ok (.iload_n 1, 1) := by decide +kernel
theorem dX1_kindValue_20 : decode cX1_kindValue 20 = .ok (.bipush 10, 2) := by decide +kernel
theorem dX1_kindValue_22 : decode cX1_kindValue 22 = .ok (.isub, 1) := by decide +kernel
theorem dX1_kindValue_23 : decode cX1_kindValue 23 = .ok (.iconst 4, 1) := by decide +kernel
theorem dX1_kindValue_24 : decode cX1_kindValue 24 = .ok (.irem, 1) := by decide +kernel
theorem dX1_kindValue_25 : decode cX1_kindValue 25 = .ok (.invokevirtual 53, 3) := by decide +kernel
theorem dX1_kindValue_28 : decode cX1_kindValue 28 = .ok (.ifCond .eq 7, 3) := by decide +kernel
theorem dX1_kindValue_31 : decode cX1_kindValue 31 = .ok (.iconst 1, 1) := by decide +kernel
theorem dX1_kindValue_32 : decode cX1_kindValue 32 = .ok (.goto 4, 3) := by decide +kernel
theorem dX1_kindValue_35 : decode cX1_kindValue 35 = .ok (.iconst 0, 1) := by decide +kernel
theorem dX1_kindValue_36 : decode cX1_kindValue 36 = .ok (.ireturn, 1) := by decide +kernel
theorem dX1_kindValue_37 : decode cX1_kindValue 37 = .ok (.iload_n 1, 1) := by decide +kernel
theorem dX1_kindValue_38 : decode cX1_kindValue 38 = .ok (.bipush 30, 2) := by decide +kernel
theorem dX1_kindValue_40 : decode cX1_kindValue 40 = .ok (.if_icmp .lt 34, 3) := by decide +kernel
theorem dX1_kindValue_43 : decode cX1_kindValue 43 = .ok (.iload_n 1, 1) := by decide +kernel
theorem dX1_kindValue_44 : decode cX1_kindValue 44 = .ok (.bipush 46, 2) := by decide +kernel
theorem dX1_kindValue_46 : decode cX1_kindValue 46 = .ok (.if_icmp .ge 28, 3) := by decide +kernel
theorem dX1_kindValue_49 : decode cX1_kindValue 49 = .ok (.aload_n 0, 1) := by decide +kernel
theorem dX1_kindValue_50 : decode cX1_kindValue 50 = .ok (.iload_n 1, 1) := by decide +kernel
theorem dX1_kindValue_51 : decode cX1_kindValue 51 = .ok (.bipush 30, 2) := by decide +kernel
theorem dX1_kindValue_53 : decode cX1_kindValue 53 = .ok (.isub, 1) := by decide +kernel
theorem dX1_kindValue_54 : decode cX1_kindValue 54 = .ok (.iconst 4, 1) := by decide +kernel
theorem dX1_kindValue_55 : decode cX1_kindValue 55 = .ok (.idiv, 1) := by decide +kernel
theorem dX1_kindValue_56 : decode cX1_kindValue 56 = .ok (.iload_n 1, 1) := by decide +kernel
theorem dX1_kindValue_57 : decode cX1_kindValue 57 = .ok (.bipush 30, 2) := by decide +kernel
theorem dX1_kindValue_59 : decode cX1_kindValue 59 = .ok (.isub, 1) := by decide +kernel
theorem dX1_kindValue_60 : decode cX1_kindValue 60 = .ok (.iconst 4, 1) := by decide +kernel
theorem dX1_kindValue_61 : decode cX1_kindValue 61 = .ok (.irem, 1) := by decide +kernel
theorem dX1_kindValue_62 : decode cX1_kindValue 62 = .ok (.invokevirtual 57, 3) := by decide +kernel
theorem dX1_kindValue_65 : decode cX1_kindValue 65 = .ok (.ifCond .eq 7, 3) := by decide +kernel
theorem dX1_kindValue_68 : decode cX1_kindValue 68 = .ok (.iconst 1, 1) := by decide +kernel
theorem dX1_kindValue_69 : decode cX1_kindValue 69 = .ok (.goto 4, 3) := by decide +kernel
theorem dX1_kindValue_72 : decode cX1_kindValue 72 = .ok (.iconst 0, 1) := by decide +kernel
theorem dX1_kindValue_73 : decode cX1_kindValue 73 = .ok (.ireturn, 1) := by decide +kernel
theorem dX1_kindValue_74 : decode cX1_kindValue 74 = .ok (.iconst (-1), 1) := by decide +kernel
theorem dX1_kindValue_75 : decode cX1_kindValue 75 = .ok (.ireturn, 1) := by decide +kernel
theorem dX2_init_0 : decode cX2_init 0 = .ok (.aload_n 0, 1) := by decide +kernel
theorem dX2_init_1 : decode cX2_init 1 = .ok (.invokespecial 5, 3) := by decide +kernel
theorem dX2_init_4 : decode cX2_init 4 = .ok (.aload_n 0, 1) := by decide +kernel
theorem dX2_init_5 : decode cX2_init 5 = .ok (.sipush 201, 3) := by decide +kernel
theorem dX2_init_8 : decode cX2_init 8 = .ok (.newarray .int, 2) := by decide +kernel
theorem dX2_init_10 : decode cX2_init 10 = .ok (.putfield 11, 3) := by decide +kernel
theorem dX2_init_13 : decode cX2_init 13 = .ok (.aload_n 0, 1) := by decide +kernel
theorem dX2_init_14 : decode cX2_init 14 = .ok (.sipush 201, 3) := by decide +kernel
theorem dX2_init_17 : decode cX2_init 17 = .ok (.newarray .int, 2) := by decide +kernel
theorem dX2_init_19 : decode cX2_init 19 = .ok (.putfield 15, 3) := by decide +kernel
theorem dX2_init_22 : decode cX2_init 22 = .ok (.aload_n 0, 1) := by decide +kernel
theorem dX2_init_23 : decode cX2_init 23 = .ok (.sipush 201, 3) := by decide +kernel
theorem dX2_init_26 : decode cX2_init 26 = .ok (.newarray .int, 2) := by decide +kernel
theorem dX2_init_28 : decode cX2_init 28 = .ok (.putfield 18, 3) := by decide +kernel
theorem dX2_init_31 : decode cX2_init 31 = .ok (.aload_n 0, 1) := by decide +kernel
theorem dX2_init_32 : decode cX2_init 32 = .ok (.iconst 0, 1) := by decide +kernel
theorem dX2_init_33 : decode cX2_init 33 = .ok (.putfield 21, 3) := by decide +kernel
theorem dX2_init_36 : decode cX2_init 36 = .ok (.aload_n 0, 1) := by decide +kernel
theorem dX2_init_37 : decode cX2_init 37 = .ok (.iconst 0, 1) := by decide +kernel
theorem dX2_init_38 : decode cX2_init 38 = .ok (.putfield 25, 3) := by decide +kernel
theorem dX2_init_41 : decode cX2_init 41 = .ok (.aload_n 0, 1) := by decide +kernel
theorem dX2_init_42 : decode cX2_init 42 = .ok (.iconst 0, 1) := by decide +kernel
theorem dX2_init_43 : decode cX2_init 43 = .ok (.putfield 28, 3) := by decide +kernel
theorem dX2_init_46 : decode cX2_init 46 = .ok (.aload_n 0, 1) := by decide +kernel
theorem dX2_init_47 : decode cX2_init 47 = .ok (.iconst (-1), 1) := by decide +kernel
theorem dX2_init_48 : decode cX2_init 48 = .ok (.putfield 31, 3) := by decide +kernel
theorem dX2_init_51 : decode cX2_init 51 = .ok (.return_, 1) := by decide +kernel
theorem dX2_faultKind_0 : decode cX2_faultKind 0 = .ok (.aload_n 0, 1) := by decide +kernel
theorem dX2_faultKind_1 : decode cX2_faultKind 1 = .ok (.getfield 28, 3) := by decide +kernel
theorem dX2_faultKind_4 : decode cX2_faultKind 4 = .ok (.ireturn, 1) := by decide +kernel
theorem dX2_faultPlace_0 : decode cX2_faultPlace 0 = .ok (.aload_n 0, 1) := by decide +kernel
theorem dX2_faultPlace_1 : decode cX2_faultPlace 1 = .ok (.getfield 31, 3) := by decide +kernel
theorem dX2_faultPlace_4 : decode cX2_faultPlace 4 = .ok (.ireturn, 1) := by decide +kernel
theorem dX2_parse_0 : decode cX2_parse 0 = .ok (.aload_n 0, 1) := by decide +kernel
theorem dX2_parse_1 : decode cX2_parse 1 = .ok (.aload_n 1, 1) := by decide +kernel
theorem dX2_parse_2 : decode cX2_parse 2 = .ok (.invokevirtual 34, 3) := by decide +kernel
theorem dX2_parse_5 : decode cX2_parse 5 = .ok (.aload_n 0, 1) := by decide +kernel
theorem dX2_parse_6 : decode cX2_parse 6 = .ok (.iconst 0, 1) := by decide +kernel
theorem dX2_parse_7 : decode cX2_parse 7 = .ok (.putfield 25, 3) := by decide +kernel
theorem dX2_parse_10 : decode cX2_parse 10 = .ok (.aload_n 0, 1) := by decide +kernel
theorem dX2_parse_11 : decode cX2_parse 11 = .ok (.iconst 0, 1) := by decide +kernel
theorem dX2_parse_12 : decode cX2_parse 12 = .ok (.putfield 28, 3) := by decide +kernel
theorem dX2_parse_15 : decode cX2_parse 15 = .ok (.aload_n 0, 1) := by decide +kernel
theorem dX2_parse_16 : decode cX2_parse 16 = .ok (.iconst (-1), 1) := by decide +kernel
theorem dX2_parse_17 : decode cX2_parse 17 = .ok (.putfield 31, 3) := by decide +kernel
theorem dX2_parse_20 : decode cX2_parse 20 = .ok (.aload_n 2, 1) := by decide +kernel
theorem dX2_parse_21 : decode cX2_parse 21 = .ok (.invokevirtual 38, 3) := by decide +kernel
theorem dX2_parse_24 : decode cX2_parse 24 = .ok (.iconst 0, 1) := by decide +kernel
theorem dX2_parse_25 : decode cX2_parse 25 = .ok (.istore_n 3, 1) := by decide +kernel
theorem dX2_parse_26 : decode cX2_parse 26 = .ok (.aload_n 0, 1) := by decide +kernel
theorem dX2_parse_27 : decode cX2_parse 27 = .ok (.invokevirtual 43, 3) := by decide +kernel
theorem dX2_parse_30 : decode cX2_parse 30 = .ok (.ifCond .eq 28, 3) := by decide +kernel
theorem dX2_parse_33 : decode cX2_parse 33 = .ok (.aload_n 0, 1) := by decide +kernel
theorem dX2_parse_34 : decode cX2_parse 34 = .ok (.getfield 28, 3) := by decide +kernel
theorem dX2_parse_37 : decode cX2_parse 37 = .ok (.ifCond .ne 21, 3) := by decide +kernel
theorem dX2_parse_40 : decode cX2_parse 40 = .ok (.iload_n 3, 1) := by decide +kernel
theorem dX2_parse_41 : decode cX2_parse 41 = .ok (.bipush 40, 2) := by decide +kernel
theorem dX2_parse_43 : decode cX2_parse 43 = .ok (.if_icmp .gt 15, 3) := by decide +kernel
theorem dX2_parse_46 : decode cX2_parse 46 = .ok (.aload_n 0, 1) := by decide +kernel
theorem dX2_parse_47 : decode cX2_parse 47 = .ok (.aload_n 2, 1) := by decide +kernel
theorem dX2_parse_48 : decode cX2_parse 48 = .ok (.iload_n 3, 1) := by decide +kernel
theorem dX2_parse_49 : decode cX2_parse 49 = .ok (.invokevirtual 47, 3) := by decide +kernel
theorem dX2_parse_52 : decode cX2_parse 52 = .ok (.iinc 3 1, 3) := by decide +kernel
theorem dX2_parse_55 : decode cX2_parse 55 = .ok (.goto (-29), 3) := by decide +kernel
theorem dX2_parse_58 : decode cX2_parse 58 = .ok (.aload_n 0, 1) := by decide +kernel
theorem dX2_parse_59 : decode cX2_parse 59 = .ok (.getfield 28, 3) := by decide +kernel
theorem dX2_parse_62 : decode cX2_parse 62 = .ok (.ifCond .ne 7, 3) := by decide +kernel
theorem dX2_parse_65 : decode cX2_parse 65 = .ok (.iload_n 3, 1) := by decide +kernel
theorem dX2_parse_66 : decode cX2_parse 66 = .ok (.goto 4, 3) := by decide +kernel
theorem dX2_parse_69 : decode cX2_parse 69 = .ok (.iconst (-1), 1) := by decide +kernel
theorem dX2_parse_70 : decode cX2_parse 70 = .ok (.ireturn, 1) := by decide +kernel
theorem dX2_readLine_0 : decode cX2_readLine 0 = .ok (.aload_n 0, 1) := by decide +kernel
theorem dX2_readLine_1 : decode cX2_readLine 1 = .ok (.invokevirtual 51, 3) := by decide +kernel
theorem dX2_readLine_4 : decode cX2_readLine 4 = .ok (.istore_n 3, 1) := by decide +kernel
theorem dX2_readLine_5 : decode cX2_readLine 5 = .ok (.aload_n 0, 1) := by decide +kernel
theorem dX2_readLine_6 : decode cX2_readLine 6 = .ok (.invokevirtual 54, 3) := by decide +kernel
theorem dX2_readLine_9 : decode cX2_readLine 9 = .ok (.ifCond .ne 9, 3) := by decide +kernel
theorem dX2_readLine_12 : decode cX2_readLine 12 = .ok (.aload_n 0, 1) := by decide +kernel
theorem dX2_readLine_13 : decode cX2_readLine 13 = .ok (.iconst 1, 1) := by decide +kernel
theorem dX2_readLine_14 : decode cX2_readLine 14 = .ok (.invokevirtual 58, 3) := by decide +kernel
theorem dX2_readLine_17 : decode cX2_readLine 17 = .ok (.return_, 1) := by decide +kernel
theorem dX2_readLine_18 : decode cX2_readLine 18 = .ok (.iload_n 2, 1) := by decide +kernel
theorem dX2_readLine_19 : decode cX2_readLine 19 = .ok (.bipush 40, 2) := by decide +kernel
theorem dX2_readLine_21 : decode cX2_readLine 21 = .ok (.if_icmp .lt 9, 3) := by decide +kernel
theorem dX2_readLine_24 : decode cX2_readLine 24 = .ok (.aload_n 0, 1) := by decide +kernel
theorem dX2_readLine_25 : decode cX2_readLine 25 = .ok (.iconst 3, 1) := by decide +kernel
theorem dX2_readLine_26 : decode cX2_readLine 26 = .ok (.invokevirtual 58, 3) := by decide +kernel
theorem dX2_readLine_29 : decode cX2_readLine 29 = .ok (.return_, 1) := by decide +kernel
theorem dX2_readLine_30 : decode cX2_readLine 30 = .ok (.aload_n 0, 1) := by decide +kernel
theorem dX2_readLine_31 : decode cX2_readLine 31 = .ok (.dup, 1) := by decide +kernel
theorem dX2_readLine_32 : decode cX2_readLine 32 = .ok (.getfield 25, 3) := by decide +kernel
theorem dX2_readLine_35 : decode cX2_readLine 35 = .ok (.iconst 1, 1) := by decide +kernel
theorem dX2_readLine_36 : decode cX2_readLine 36 = .ok (.iadd, 1) := by decide +kernel
theorem dX2_readLine_37 : decode cX2_readLine 37 = .ok (.putfield 25, 3) := by decide +kernel
theorem dX2_readLine_40 : decode cX2_readLine 40 = .ok (.iload_n 3, 1) := by decide +kernel
theorem dX2_readLine_41 : decode cX2_readLine 41 = .ok (.bipush 14, 2) := by decide +kernel
theorem dX2_readLine_43 : decode cX2_readLine 43 = .ok (.if_icmp .lt 15, 3) := by decide +kernel
theorem dX2_readLine_46 : decode cX2_readLine 46 = .ok (.aload_n 0, 1) := by decide +kernel
theorem dX2_readLine_47 : decode cX2_readLine 47 = .ok (.aload_n 1, 1) := by decide +kernel
theorem dX2_readLine_48 : decode cX2_readLine 48 = .ok (.iload_n 3, 1) := by decide +kernel
theorem dX2_readLine_49 : decode cX2_readLine 49 = .ok (.bipush 14, 2) := by decide +kernel
theorem dX2_readLine_51 : decode cX2_readLine 51 = .ok (.isub, 1) := by decide +kernel
theorem dX2_readLine_52 : decode cX2_readLine 52 = .ok (.invokevirtual 62, 3) := by decide +kernel
theorem dX2_readLine_55 : decode cX2_readLine 55 = .ok (.goto 9, 3) := by decide +kernel
theorem dX2_readLine_58 : decode cX2_readLine 58 = .ok (.aload_n 0, 1) := by decide +kernel
theorem dX2_readLine_59 : decode cX2_readLine 59 = .ok (.aload_n 1, 1) := by decide +kernel
theorem dX2_readLine_60 : decode cX2_readLine 60 = .ok (.iload_n 3, 1) := by decide +kernel
theorem dX2_readLine_61 : decode cX2_readLine 61 = .ok (.invokevirtual 65, 3) := by decide +kernel
theorem dX2_readLine_64 : decode cX2_readLine 64 = .ok (.aload_n 0, 1) := by decide +kernel
theorem dX2_readLine_65 : decode cX2_readLine 65 = .ok (.invokevirtual 43, 3) := by decide +kernel
theorem dX2_readLine_68 : decode cX2_readLine 68 = .ok (.iconst 3, 1) := by decide +kernel
theorem dX2_readLine_69 : decode cX2_readLine 69 = .ok (.if_icmp .eq 8, 3) := by decide +kernel
theorem dX2_readLine_72 : decode cX2_readLine 72 = .ok (.aload_n 0, 1) := by decide +kernel
theorem dX2_readLine_73 : decode cX2_readLine 73 = .ok (.iconst 1, 1) := by decide +kernel
theorem dX2_readLine_74 : decode cX2_readLine 74 = .ok (.invokevirtual 58, 3) := by decide +kernel
theorem dX2_readLine_77 : decode cX2_readLine 77 = .ok (.aload_n 0, 1) := by decide +kernel
theorem dX2_readLine_78 : decode cX2_readLine 78 = .ok (.dup, 1) := by decide +kernel
theorem dX2_readLine_79 : decode cX2_readLine 79 = .ok (.getfield 25, 3) := by decide +kernel
theorem dX2_readLine_82 : decode cX2_readLine 82 = .ok (.iconst 1, 1) := by decide +kernel
theorem dX2_readLine_83 : decode cX2_readLine 83 = .ok (.iadd, 1) := by decide +kernel
theorem dX2_readLine_84 : decode cX2_readLine 84 = .ok (.putfield 25, 3) := by decide +kernel
theorem dX2_readLine_87 : decode cX2_readLine 87 = .ok (.return_, 1) := by decide +kernel
theorem dX2_beginsLine_0 : decode cX2_beginsLine 0 = .ok (.aload_n 0, 1) := by decide +kernel
theorem dX2_beginsLine_1 : decode cX2_beginsLine 1 = .ok (.invokevirtual 51, 3) := by decide +kernel
theorem dX2_beginsLine_4 : decode cX2_beginsLine 4 = .ok (.istore_n 1, 1) := by decide +kernel
theorem dX2_beginsLine_5 : decode cX2_beginsLine 5 = .ok (.aload_n 0, 1) := by decide +kernel
theorem dX2_beginsLine_6 : decode cX2_beginsLine 6 = .ok (.invokevirtual 43, 3) := by decide +kernel
theorem dX2_beginsLine_9 : decode cX2_beginsLine 9 = .ok (.iconst 1, 1) := by decide +kernel
theorem dX2_beginsLine_10 : decode cX2_beginsLine 10 = .ok (.if_icmp .ne 33, 3) := by decide +kernel
theorem dX2_beginsLine_13 : decode cX2_beginsLine 13 = .ok (.iload_n 1, 1) := by decide +kernel
theorem dX2_beginsLine_14 : decode cX2_beginsLine 14 = .ok (.ifCond .eq 25, 3) := by decide +kernel
theorem dX2_beginsLine_17 : decode cX2_beginsLine 17 = .ok (.iload_n 1, 1) := by decide +kernel
theorem dX2_beginsLine_18 : decode cX2_beginsLine 18 = .ok (.iconst 4, 1) := by decide +kernel
theorem dX2_beginsLine_19 : decode cX2_beginsLine 19 = .ok (.if_icmp .eq 20, 3) := by decide +kernel
theorem dX2_beginsLine_22 : decode cX2_beginsLine 22 = .ok (.iload_n 1, 1) := by decide +kernel
theorem dX2_beginsLine_23 : decode cX2_beginsLine 23 = .ok (.iconst 5, 1) := by decide +kernel
theorem dX2_beginsLine_24 : decode cX2_beginsLine 24 = .ok (.if_icmp .eq 15, 3) := by decide +kernel
theorem dX2_beginsLine_27 : decode cX2_beginsLine 27 = .ok (.iload_n 1, 1) := by decide +kernel
theorem dX2_beginsLine_28 : decode cX2_beginsLine 28 = .ok (.bipush 8, 2) := by decide +kernel
theorem dX2_beginsLine_30 : decode cX2_beginsLine 30 = .ok (.if_icmp .lt 13, 3) := by decide +kernel
theorem dX2_beginsLine_33 : decode cX2_beginsLine 33 = .ok (.iload_n 1, 1) := by decide +kernel
theorem dX2_beginsLine_34 : decode cX2_beginsLine 34 = .ok (.bipush 12, 2) := by decide +kernel
theorem dX2_beginsLine_36 : decode cX2_beginsLine 36 = .ok (.if_icmp .eq 7, 3) := by decide +kernel
theorem dX2_beginsLine_39 : decode cX2_beginsLine 39 = .ok (.iconst 1, 1) := by decide +kernel
theorem dX2_beginsLine_40 : decode cX2_beginsLine 40 = .ok (.goto 4, 3) := by decide +kernel
theorem dX2_beginsLine_43 : decode cX2_beginsLine 43 = .ok (.iconst 0, 1) := by decide +kernel
theorem dX2_beginsLine_44 : decode cX2_beginsLine 44 = .ok (.ireturn, 1) := by decide +kernel
theorem dX2_readRule_0 : decode cX2_readRule 0 = .ok (.iload_n 2, 1) := by decide +kernel
theorem dX2_readRule_1 : decode cX2_readRule 1 = .ok (.tableswitch 175 0 11 #[63, 175, 175, 175, 76, 84, 175, 175, 97, 110, 124, 138], 63) := by decide +kernel
theorem dX2_readRule_64 : decode cX2_readRule 64 = .ok (.aload_n 1, 1) := by decide +kernel
theorem dX2_readRule_65 : decode cX2_readRule 65 = .ok (.aload_n 0, 1) := by decide +kernel
theorem dX2_readRule_66 : decode cX2_readRule 66 = .ok (.iconst 1, 1) := by decide +kernel
theorem dX2_readRule_67 : decode cX2_readRule 67 = .ok (.iconst 3, 1) := by decide +kernel
theorem dX2_readRule_68 : decode cX2_readRule 68 = .ok (.invokevirtual 68, 3) := by decide +kernel
theorem dX2_readRule_71 : decode cX2_readRule 71 = .ok (.putfield 72, 3) := by decide +kernel
theorem dX2_readRule_74 : decode cX2_readRule 74 = .ok (.goto 113, 3) := by decide +kernel
theorem dX2_readRule_77 : decode cX2_readRule 77 = .ok (.aload_n 1, 1) := by decide +kernel
theorem dX2_readRule_78 : decode cX2_readRule 78 = .ok (.iconst 1, 1) := by decide +kernel
theorem dX2_readRule_79 : decode cX2_readRule 79 = .ok (.putfield 75, 3) := by decide +kernel
theorem dX2_readRule_82 : decode cX2_readRule 82 = .ok (.goto 105, 3) := by decide +kernel
theorem dX2_readRule_85 : decode cX2_readRule 85 = .ok (.aload_n 1, 1) := by decide +kernel
theorem dX2_readRule_86 : decode cX2_readRule 86 = .ok (.aload_n 0, 1) := by decide +kernel
theorem dX2_readRule_87 : decode cX2_readRule 87 = .ok (.iconst 0, 1) := by decide +kernel
theorem dX2_readRule_88 : decode cX2_readRule 88 = .ok (.iconst 3, 1) := by decide +kernel
theorem dX2_readRule_89 : decode cX2_readRule 89 = .ok (.invokevirtual 79, 3) := by decide +kernel
theorem dX2_readRule_92 : decode cX2_readRule 92 = .ok (.putfield 82, 3) := by decide +kernel
theorem dX2_readRule_95 : decode cX2_readRule 95 = .ok (.goto 92, 3) := by decide +kernel
theorem dX2_readRule_98 : decode cX2_readRule 98 = .ok (.aload_n 1, 1) := by decide +kernel
theorem dX2_readRule_99 : decode cX2_readRule 99 = .ok (.aload_n 0, 1) := by decide +kernel
theorem dX2_readRule_100 : decode cX2_readRule 100 = .ok (.iconst 0, 1) := by decide +kernel
theorem dX2_readRule_101 : decode cX2_readRule 101 = .ok (.iconst 5, 1) := by decide +kernel
theorem dX2_readRule_102 : decode cX2_readRule 102 = .ok (.invokevirtual 79, 3) := by decide +kernel
theorem dX2_readRule_105 : decode cX2_readRule 105 = .ok (.putfield 85, 3) := by decide +kernel
theorem dX2_readRule_108 : decode cX2_readRule 108 = .ok (.goto 79, 3) := by decide +kernel
theorem dX2_readRule_111 : decode cX2_readRule 111 = .ok (.aload_n 1, 1) := by decide +kernel
theorem dX2_readRule_112 : decode cX2_readRule 112 = .ok (.aload_n 0, 1) := by decide +kernel
theorem dX2_readRule_113 : decode cX2_readRule 113 = .ok (.iconst 0, 1) := by decide +kernel
theorem dX2_readRule_114 : decode cX2_readRule 114 = .ok (.bipush 99, 2) := by decide +kernel
theorem dX2_readRule_116 : decode cX2_readRule 116 = .ok (.invokevirtual 79, 3) := by decide +kernel
theorem dX2_readRule_119 : decode cX2_readRule 119 = .ok (.putfield 88, 3) := by decide +kernel
theorem dX2_readRule_122 : decode cX2_readRule 122 = .ok (.goto 65, 3) := by decide +kernel
theorem dX2_readRule_125 : decode cX2_readRule 125 = .ok (.aload_n 1, 1) := by decide +kernel
theorem dX2_readRule_126 : decode cX2_readRule 126 = .ok (.aload_n 0, 1) := by decide +kernel
theorem dX2_readRule_127 : decode cX2_readRule 127 = .ok (.iconst 0, 1) := by decide +kernel
theorem dX2_readRule_128 : decode cX2_readRule 128 = .ok (.bipush 9, 2) := by decide +kernel
theorem dX2_readRule_130 : decode cX2_readRule 130 = .ok (.invokevirtual 79, 3) := by decide +kernel
theorem dX2_readRule_133 : decode cX2_readRule 133 = .ok (.putfield 91, 3) := by decide +kernel
theorem dX2_readRule_136 : decode cX2_readRule 136 = .ok (.goto 51, 3) := by decide +kernel
theorem dX2_readRule_139 : decode cX2_readRule 139 = .ok (.aload_n 1, 1) := by decide +kernel
theorem dX2_readRule_140 : decode cX2_readRule 140 = .ok (.aload_n 0, 1) := by decide +kernel
theorem dX2_readRule_141 : decode cX2_readRule 141 = .ok (.iconst 0, 1) := by decide +kernel
theorem dX2_readRule_142 : decode cX2_readRule 142 = .ok (.bipush 99, 2) := by decide +kernel
theorem dX2_readRule_144 : decode cX2_readRule 144 = .ok (.invokevirtual 79, 3) := by decide +kernel
theorem dX2_readRule_147 : decode cX2_readRule 147 = .ok (.putfield 94, 3) := by decide +kernel
theorem dX2_readRule_150 : decode cX2_readRule 150 = .ok (.aload_n 0, 1) := by decide +kernel
theorem dX2_readRule_151 : decode cX2_readRule 151 = .ok (.bipush 12, 2) := by decide +kernel
theorem dX2_readRule_153 : decode cX2_readRule 153 = .ok (.bipush 12, 2) := by decide +kernel
theorem dX2_readRule_155 : decode cX2_readRule 155 = .ok (.invokevirtual 68, 3) := by decide +kernel
theorem dX2_readRule_158 : decode cX2_readRule 158 = .ok (.pop, 1) := by decide +kernel
theorem dX2_readRule_159 : decode cX2_readRule 159 = .ok (.aload_n 1, 1) := by decide +kernel
theorem dX2_readRule_160 : decode cX2_readRule 160 = .ok (.aload_n 0, 1) := by decide +kernel
theorem dX2_readRule_161 : decode cX2_readRule 161 = .ok (.aload_n 1, 1) := by decide +kernel
theorem dX2_readRule_162 : decode cX2_readRule 162 = .ok (.getfield 94, 3) := by decide +kernel
theorem dX2_readRule_165 : decode cX2_readRule 165 = .ok (.bipush 99, 2) := by decide +kernel
theorem dX2_readRule_167 : decode cX2_readRule 167 = .ok (.invokevirtual 79, 3) := by decide +kernel
theorem dX2_readRule_170 : decode cX2_readRule 170 = .ok (.putfield 97, 3) := by decide +kernel
theorem dX2_readRule_173 : decode cX2_readRule 173 = .ok (.goto 14, 3) := by decide +kernel
theorem dX2_readRule_176 : decode cX2_readRule 176 = .ok (.aload_n 1, 1) := by decide +kernel
theorem dX2_readRule_177 : decode cX2_readRule 177 = .ok (.aload_n 0, 1) := by decide +kernel
theorem dX2_readRule_178 : decode cX2_readRule 178 = .ok (.iconst 0, 1) := by decide +kernel
theorem dX2_readRule_179 : decode cX2_readRule 179 = .ok (.bipush 99, 2) := by decide +kernel
theorem dX2_readRule_181 : decode cX2_readRule 181 = .ok (.invokevirtual 79, 3) := by decide +kernel
theorem dX2_readRule_184 : decode cX2_readRule 184 = .ok (.putfield 100, 3) := by decide +kernel
theorem dX2_readRule_187 : decode cX2_readRule 187 = .ok (.return_, 1) := by decide +kernel
theorem dX2_readKinds_0 : decode cX2_readKinds 0 = .ok (.aload_n 0, 1) := by decide +kernel
theorem dX2_readKinds_1 : decode cX2_readKinds 1 = .ok (.bipush 6, 2) := by decide +kernel
theorem dX2_readKinds_3 : decode cX2_readKinds 3 = .ok (.bipush 7, 2) := by decide +kernel
theorem dX2_readKinds_5 : decode cX2_readKinds 5 = .ok (.invokevirtual 68, 3) := by decide +kernel
theorem dX2_readKinds_8 : decode cX2_readKinds 8 = .ok (.istore_n 3, 1) := by decide +kernel
theorem dX2_readKinds_9 : decode cX2_readKinds 9 = .ok (.aload_n 0, 1) := by decide +kernel
theorem dX2_readKinds_10 : decode cX2_readKinds 10 = .ok (.bipush 14, 2) := by decide +kernel
theorem dX2_readKinds_12 : decode cX2_readKinds 12 = .ok (.bipush 17, 2) := by decide +kernel
theorem dX2_readKinds_14 : decode cX2_readKinds 14 = .ok (.invokevirtual 68, 3) := by decide +kernel
theorem dX2_readKinds_17 : decode cX2_readKinds 17 = .ok (.bipush 14, 2) := by decide +kernel
theorem dX2_readKinds_19 : decode cX2_readKinds 19 = .ok (.isub, 1) := by decide +kernel
theorem dX2_readKinds_20 : decode cX2_readKinds 20 = .ok (.istore 4, 2) := by decide +kernel
theorem dX2_readKinds_22 : decode cX2_readKinds 22 = .ok (.aload_n 0, 1) := by decide +kernel
theorem dX2_readKinds_23 : decode cX2_readKinds 23 = .ok (.getfield 28, 3) := by decide +kernel
theorem dX2_readKinds_26 : decode cX2_readKinds 26 = .ok (.ifCond .eq 4, 3) := by decide +kernel
theorem dX2_readKinds_29 : decode cX2_readKinds 29 = .ok (.return_, 1) := by decide +kernel
theorem dX2_readKinds_30 : decode cX2_readKinds 30 = .ok (.iload_n 3, 1) := by decide +kernel
theorem dX2_readKinds_31 : decode cX2_readKinds 31 = .ok (.bipush 6, 2) := by decide +kernel
theorem dX2_readKinds_33 : decode cX2_readKinds 33 = .ok (.if_icmp .ne 13, 3) := by decide +kernel
theorem dX2_readKinds_36 : decode cX2_readKinds 36 = .ok (.aload_n 1, 1) := by decide +kernel
theorem dX2_readKinds_37 : decode cX2_readKinds 37 = .ok (.iload_n 2, 1) := by decide +kernel
theorem dX2_readKinds_38 : decode cX2_readKinds 38 = .ok (.iload 4, 2) := by decide +kernel
theorem dX2_readKinds_40 : decode cX2_readKinds 40 = .ok (.invokevirtual 103, 3) := by decide +kernel
theorem dX2_readKinds_43 : decode cX2_readKinds 43 = .ok (.goto 10, 3) := by decide +kernel
theorem dX2_readKinds_46 : decode cX2_readKinds 46 = .ok (.aload_n 1, 1) := by decide +kernel
theorem dX2_readKinds_47 : decode cX2_readKinds 47 = .ok (.iload_n 2, 1) := by decide +kernel
theorem dX2_readKinds_48 : decode cX2_readKinds 48 = .ok (.iload 4, 2) := by decide +kernel
theorem dX2_readKinds_50 : decode cX2_readKinds 50 = .ok (.invokevirtual 107, 3) := by decide +kernel
theorem dX2_readKinds_53 : decode cX2_readKinds 53 = .ok (.return_, 1) := by decide +kernel
theorem dX2_readWord_0 : decode cX2_readWord 0 = .ok (.aload_n 0, 1) := by decide +kernel
theorem dX2_readWord_1 : decode cX2_readWord 1 = .ok (.invokevirtual 51, 3) := by decide +kernel
theorem dX2_readWord_4 : decode cX2_readWord 4 = .ok (.istore_n 3, 1) := by decide +kernel
theorem dX2_readWord_5 : decode cX2_readWord 5 = .ok (.aload_n 0, 1) := by decide +kernel
theorem dX2_readWord_6 : decode cX2_readWord 6 = .ok (.invokevirtual 43, 3) := by decide +kernel
theorem dX2_readWord_9 : decode cX2_readWord 9 = .ok (.iconst 1, 1) := by decide +kernel
theorem dX2_readWord_10 : decode cX2_readWord 10 = .ok (.if_icmp .ne 13, 3) := by decide +kernel
theorem dX2_readWord_13 : decode cX2_readWord 13 = .ok (.iload_n 3, 1) := by decide +kernel
theorem dX2_readWord_14 : decode cX2_readWord 14 = .ok (.iload_n 1, 1) := by decide +kernel
theorem dX2_readWord_15 : decode cX2_readWord 15 = .ok (.if_icmp .lt 8, 3) := by decide +kernel
theorem dX2_readWord_18 : decode cX2_readWord 18 = .ok (.iload_n 3, 1) := by decide +kernel
theorem dX2_readWord_19 : decode cX2_readWord 19 = .ok (.iload_n 2, 1) := by decide +kernel
theorem dX2_readWord_20 : decode cX2_readWord 20 = .ok (.if_icmp .le 10, 3) := by decide +kernel
theorem dX2_readWord_23 : decode cX2_readWord 23 = .ok (.aload_n 0, 1) := by decide +kernel
theorem dX2_readWord_24 : decode cX2_readWord 24 = .ok (.iconst 1, 1) := by decide +kernel
theorem dX2_readWord_25 : decode cX2_readWord 25 = .ok (.invokevirtual 58, 3) := by decide +kernel
theorem dX2_readWord_28 : decode cX2_readWord 28 = .ok (.iload_n 1, 1) := by decide +kernel
theorem dX2_readWord_29 : decode cX2_readWord 29 = .ok (.ireturn, 1) := by decide +kernel
theorem dX2_readWord_30 : decode cX2_readWord 30 = .ok (.aload_n 0, 1) := by decide +kernel
theorem dX2_readWord_31 : decode cX2_readWord 31 = .ok (.dup, 1) := by decide +kernel
theorem dX2_readWord_32 : decode cX2_readWord 32 = .ok (.getfield 25, 3) := by decide +kernel
theorem dX2_readWord_35 : decode cX2_readWord 35 = .ok (.iconst 1, 1) := by decide +kernel
theorem dX2_readWord_36 : decode cX2_readWord 36 = .ok (.iadd, 1) := by decide +kernel
theorem dX2_readWord_37 : decode cX2_readWord 37 = .ok (.putfield 25, 3) := by decide +kernel
theorem dX2_readWord_40 : decode cX2_readWord 40 = .ok (.iload_n 3, 1) := by decide +kernel
theorem dX2_readWord_41 : decode cX2_readWord 41 = .ok (.ireturn, 1) := by decide +kernel
theorem dX2_readNumber_0 : decode cX2_readNumber 0 = .ok (.aload_n 0, 1) := by decide +kernel
theorem dX2_readNumber_1 : decode cX2_readNumber 1 = .ok (.invokevirtual 51, 3) := by decide +kernel
theorem dX2_readNumber_4 : decode cX2_readNumber 4 = .ok (.istore_n 3, 1) := by decide +kernel
theorem dX2_readNumber_5 : decode cX2_readNumber 5 = .ok (.aload_n 0, 1) := by decide +kernel
theorem dX2_readNumber_6 : decode cX2_readNumber 6 = .ok (.invokevirtual 43, 3) := by decide +kernel
theorem dX2_readNumber_9 : decode cX2_readNumber 9 = .ok (.iconst 2, 1) := by decide +kernel
theorem dX2_readNumber_10 : decode cX2_readNumber 10 = .ok (.if_icmp .eq 10, 3) := by decide +kernel
theorem dX2_readNumber_13 : decode cX2_readNumber 13 = .ok (.aload_n 0, 1) := by decide +kernel
theorem dX2_readNumber_14 : decode cX2_readNumber 14 = .ok (.iconst 1, 1) := by decide +kernel
theorem dX2_readNumber_15 : decode cX2_readNumber 15 = .ok (.invokevirtual 58, 3) := by decide +kernel
theorem dX2_readNumber_18 : decode cX2_readNumber 18 = .ok (.iload_n 1, 1) := by decide +kernel
theorem dX2_readNumber_19 : decode cX2_readNumber 19 = .ok (.ireturn, 1) := by decide +kernel
theorem dX2_readNumber_20 : decode cX2_readNumber 20 = .ok (.iload_n 3, 1) := by decide +kernel
theorem dX2_readNumber_21 : decode cX2_readNumber 21 = .ok (.iload_n 1, 1) := by decide +kernel
theorem dX2_readNumber_22 : decode cX2_readNumber 22 = .ok (.if_icmp .lt 8, 3) := by decide +kernel
theorem dX2_readNumber_25 : decode cX2_readNumber 25 = .ok (.iload_n 3, 1) := by decide +kernel
theorem dX2_readNumber_26 : decode cX2_readNumber 26 = .ok (.iload_n 2, 1) := by decide +kernel
theorem dX2_readNumber_27 : decode cX2_readNumber 27 = .ok (.if_icmp .le 10, 3) := by decide +kernel
theorem dX2_readNumber_30 : decode cX2_readNumber 30 = .ok (.aload_n 0, 1) := by decide +kernel
theorem dX2_readNumber_31 : decode cX2_readNumber 31 = .ok (.iconst 2, 1) := by decide +kernel
theorem dX2_readNumber_32 : decode cX2_readNumber 32 = .ok (.invokevirtual 58, 3) := by decide +kernel
theorem dX2_readNumber_35 : decode cX2_readNumber 35 = .ok (.iload_n 1, 1) := by decide +kernel
theorem dX2_readNumber_36 : decode cX2_readNumber 36 = .ok (.ireturn, 1) := by decide +kernel
theorem dX2_readNumber_37 : decode cX2_readNumber 37 = .ok (.aload_n 0, 1) := by decide +kernel
theorem dX2_readNumber_38 : decode cX2_readNumber 38 = .ok (.dup, 1) := by decide +kernel
theorem dX2_readNumber_39 : decode cX2_readNumber 39 = .ok (.getfield 25, 3) := by decide +kernel
theorem dX2_readNumber_42 : decode cX2_readNumber 42 = .ok (.iconst 1, 1) := by decide +kernel
theorem dX2_readNumber_43 : decode cX2_readNumber 43 = .ok (.iadd, 1) := by decide +kernel
theorem dX2_readNumber_44 : decode cX2_readNumber 44 = .ok (.putfield 25, 3) := by decide +kernel
theorem dX2_readNumber_47 : decode cX2_readNumber 47 = .ok (.iload_n 3, 1) := by decide +kernel
theorem dX2_readNumber_48 : decode cX2_readNumber 48 = .ok (.ireturn, 1) := by decide +kernel
theorem dX2_token_0 : decode cX2_token 0 = .ok (.aload_n 0, 1) := by decide +kernel
theorem dX2_token_1 : decode cX2_token 1 = .ok (.getfield 25, 3) := by decide +kernel
theorem dX2_token_4 : decode cX2_token 4 = .ok (.aload_n 0, 1) := by decide +kernel
theorem dX2_token_5 : decode cX2_token 5 = .ok (.getfield 21, 3) := by decide +kernel
theorem dX2_token_8 : decode cX2_token 8 = .ok (.if_icmp .ge 17, 3) := by decide +kernel
theorem dX2_token_11 : decode cX2_token 11 = .ok (.aload_n 0, 1) := by decide +kernel
theorem dX2_token_12 : decode cX2_token 12 = .ok (.getfield 11, 3) := by decide +kernel
theorem dX2_token_15 : decode cX2_token 15 = .ok (.aload_n 0, 1) := by decide +kernel
theorem dX2_token_16 : decode cX2_token 16 = .ok (.getfield 25, 3) := by decide +kernel
theorem dX2_token_19 : decode cX2_token 19 = .ok (.invokestatic 110, 3) := by decide +kernel
theorem dX2_token_22 : decode cX2_token 22 = .ok (.goto 4, 3) := by decide +kernel
theorem dX2_token_25 : decode cX2_token 25 = .ok (.iconst 0, 1) := by decide +kernel
theorem dX2_token_26 : decode cX2_token 26 = .ok (.ireturn, 1) := by decide +kernel
theorem dX2_value_0 : decode cX2_value 0 = .ok (.aload_n 0, 1) := by decide +kernel
theorem dX2_value_1 : decode cX2_value 1 = .ok (.getfield 15, 3) := by decide +kernel
theorem dX2_value_4 : decode cX2_value 4 = .ok (.aload_n 0, 1) := by decide +kernel
theorem dX2_value_5 : decode cX2_value 5 = .ok (.getfield 25, 3) := by decide +kernel
theorem dX2_value_8 : decode cX2_value 8 = .ok (.invokestatic 110, 3) := by decide +kernel
theorem dX2_value_11 : decode cX2_value 11 = .ok (.ireturn, 1) := by decide +kernel
theorem dX2_fail_0 : decode cX2_fail 0 = .ok (.aload_n 0, 1) := by decide +kernel
theorem dX2_fail_1 : decode cX2_fail 1 = .ok (.getfield 28, 3) := by decide +kernel
theorem dX2_fail_4 : decode cX2_fail 4 = .ok (.ifCond .ne 23, 3) := by decide +kernel
theorem dX2_fail_7 : decode cX2_fail 7 = .ok (.aload_n 0, 1) := by decide +kernel
theorem dX2_fail_8 : decode cX2_fail 8 = .ok (.iload_n 1, 1) := by decide +kernel
theorem dX2_fail_9 : decode cX2_fail 9 = .ok (.putfield 28, 3) := by decide +kernel
theorem dX2_fail_12 : decode cX2_fail 12 = .ok (.aload_n 0, 1) := by decide +kernel
theorem dX2_fail_13 : decode cX2_fail 13 = .ok (.aload_n 0, 1) := by decide +kernel
theorem dX2_fail_14 : decode cX2_fail 14 = .ok (.getfield 18, 3) := by decide +kernel
theorem dX2_fail_17 : decode cX2_fail 17 = .ok (.aload_n 0, 1) := by decide +kernel
theorem dX2_fail_18 : decode cX2_fail 18 = .ok (.getfield 25, 3) := by decide +kernel
theorem dX2_fail_21 : decode cX2_fail 21 = .ok (.invokestatic 110, 3) := by decide +kernel
theorem dX2_fail_24 : decode cX2_fail 24 = .ok (.putfield 31, 3) := by decide +kernel
theorem dX2_fail_27 : decode cX2_fail 27 = .ok (.return_, 1) := by decide +kernel
theorem dX2_split_0 : decode cX2_split 0 = .ok (.aload_n 0, 1) := by decide +kernel
theorem dX2_split_1 : decode cX2_split 1 = .ok (.iconst 0, 1) := by decide +kernel
theorem dX2_split_2 : decode cX2_split 2 = .ok (.putfield 21, 3) := by decide +kernel
theorem dX2_split_5 : decode cX2_split 5 = .ok (.iconst 0, 1) := by decide +kernel
theorem dX2_split_6 : decode cX2_split 6 = .ok (.istore_n 2, 1) := by decide +kernel
theorem dX2_split_7 : decode cX2_split 7 = .ok (.iload_n 2, 1) := by decide +kernel
theorem dX2_split_8 : decode cX2_split 8 = .ok (.aload_n 1, 1) := by decide +kernel
theorem dX2_split_9 : decode cX2_split 9 = .ok (.invokevirtual 114, 3) := by decide +kernel
theorem dX2_split_12 : decode cX2_split 12 = .ok (.if_icmp .ge 23, 3) := by decide +kernel
theorem dX2_split_15 : decode cX2_split 15 = .ok (.aload_n 1, 1) := by decide +kernel
theorem dX2_split_16 : decode cX2_split 16 = .ok (.iload_n 2, 1) := by decide +kernel
theorem dX2_split_17 : decode cX2_split 17 = .ok (.invokestatic 119, 3) := by decide +kernel
theorem dX2_split_20 : decode cX2_split 20 = .ok (.ifCond .eq 9, 3) := by decide +kernel
theorem dX2_split_23 : decode cX2_split 23 = .ok (.aload_n 0, 1) := by decide +kernel
theorem dX2_split_24 : decode cX2_split 24 = .ok (.aload_n 1, 1) := by decide +kernel
theorem dX2_split_25 : decode cX2_split 25 = .ok (.iload_n 2, 1) := by decide +kernel
theorem dX2_split_26 : decode cX2_split 26 = .ok (.invokevirtual 123, 3) := by decide +kernel
theorem dX2_split_29 : decode cX2_split 29 = .ok (.iinc 2 1, 3) := by decide +kernel
theorem dX2_split_32 : decode cX2_split 32 = .ok (.goto (-25), 3) := by decide +kernel
theorem dX2_split_35 : decode cX2_split 35 = .ok (.aload_n 0, 1) := by decide +kernel
theorem dX2_split_36 : decode cX2_split 36 = .ok (.iconst 0, 1) := by decide +kernel
theorem dX2_split_37 : decode cX2_split 37 = .ok (.iconst (-1), 1) := by decide +kernel
theorem dX2_split_38 : decode cX2_split 38 = .ok (.aload_n 1, 1) := by decide +kernel
theorem dX2_split_39 : decode cX2_split 39 = .ok (.invokevirtual 114, 3) := by decide +kernel
theorem dX2_split_42 : decode cX2_split 42 = .ok (.invokevirtual 127, 3) := by decide +kernel
theorem dX2_split_45 : decode cX2_split 45 = .ok (.return_, 1) := by decide +kernel
theorem dX2_beginsToken_0 : decode cX2_beginsToken 0 = .ok (.aload_n 0, 1) := by decide +kernel
theorem dX2_beginsToken_1 : decode cX2_beginsToken 1 = .ok (.iload_n 1, 1) := by decide +kernel
theorem dX2_beginsToken_2 : decode cX2_beginsToken 2 = .ok (.invokevirtual 131, 3) := by decide +kernel
theorem dX2_beginsToken_5 : decode cX2_beginsToken 5 = .ok (.istore_n 2, 1) := by decide +kernel
theorem dX2_beginsToken_6 : decode cX2_beginsToken 6 = .ok (.aload_n 0, 1) := by decide +kernel
theorem dX2_beginsToken_7 : decode cX2_beginsToken 7 = .ok (.iload_n 1, 1) := by decide +kernel
theorem dX2_beginsToken_8 : decode cX2_beginsToken 8 = .ok (.iconst 1, 1) := by decide +kernel
theorem dX2_beginsToken_9 : decode cX2_beginsToken 9 = .ok (.isub, 1) := by decide +kernel
theorem dX2_beginsToken_10 : decode cX2_beginsToken 10 = .ok (.invokevirtual 131, 3) := by decide +kernel
theorem dX2_beginsToken_13 : decode cX2_beginsToken 13 = .ok (.istore_n 3, 1) := by decide +kernel
theorem dX2_beginsToken_14 : decode cX2_beginsToken 14 = .ok (.iload_n 2, 1) := by decide +kernel
theorem dX2_beginsToken_15 : decode cX2_beginsToken 15 = .ok (.invokestatic 135, 3) := by decide +kernel
theorem dX2_beginsToken_18 : decode cX2_beginsToken 18 = .ok (.ifCond .eq 16, 3) := by decide +kernel
theorem dX2_beginsToken_21 : decode cX2_beginsToken 21 = .ok (.iload_n 3, 1) := by decide +kernel
theorem dX2_beginsToken_22 : decode cX2_beginsToken 22 = .ok (.invokestatic 135, 3) := by decide +kernel
theorem dX2_beginsToken_25 : decode cX2_beginsToken 25 = .ok (.ifCond .ne 7, 3) := by decide +kernel
theorem dX2_beginsToken_28 : decode cX2_beginsToken 28 = .ok (.iconst 1, 1) := by decide +kernel
theorem dX2_beginsToken_29 : decode cX2_beginsToken 29 = .ok (.goto 4, 3) := by decide +kernel
theorem dX2_beginsToken_32 : decode cX2_beginsToken 32 = .ok (.iconst 0, 1) := by decide +kernel
theorem dX2_beginsToken_33 : decode cX2_beginsToken 33 = .ok (.ireturn, 1) := by decide +kernel
theorem dX2_beginsToken_34 : decode cX2_beginsToken 34 = .ok (.iload_n 2, 1) := by decide +kernel
theorem dX2_beginsToken_35 : decode cX2_beginsToken 35 = .ok (.invokestatic 139, 3) := by decide +kernel
theorem dX2_beginsToken_38 : decode cX2_beginsToken 38 = .ok (.ifCond .eq 18, 3) := by decide +kernel
theorem dX2_beginsToken_41 : decode cX2_beginsToken 41 = .ok (.iload_n 3, 1) := by decide +kernel
theorem dX2_beginsToken_42 : decode cX2_beginsToken 42 = .ok (.invokestatic 139, 3) := by decide +kernel
theorem dX2_beginsToken_45 : decode cX2_beginsToken 45 = .ok (.ifCond .ne 7, 3) := by decide +kernel
theorem dX2_beginsToken_48 : decode cX2_beginsToken 48 = .ok (.iconst 1, 1) := by decide +kernel
theorem dX2_beginsToken_49 : decode cX2_beginsToken 49 = .ok (.goto 19, 3) := by decide +kernel
theorem dX2_beginsToken_52 : decode cX2_beginsToken 52 = .ok (.iconst 0, 1) := by decide +kernel
theorem dX2_beginsToken_53 : decode cX2_beginsToken 53 = .ok (.goto 15, 3) := by decide +kernel
theorem dX2_beginsToken_56 : decode cX2_beginsToken 56 = .ok (.iload_n 2, 1) := by decide +kernel
theorem dX2_beginsToken_57 : decode cX2_beginsToken 57 = .ok (.invokestatic 142, 3) := by decide +kernel
theorem dX2_beginsToken_60 : decode cX2_beginsToken 60 = .ok (.ifCond .ne 7, 3) := by decide +kernel
theorem dX2_beginsToken_63 : decode cX2_beginsToken 63 = .ok (.iconst 1, 1) := by decide +kernel
theorem dX2_beginsToken_64 : decode cX2_beginsToken 64 = .ok (.goto 4, 3) := by decide +kernel
theorem dX2_beginsToken_67 : decode cX2_beginsToken 67 = .ok (.iconst 0, 1) := by decide +kernel
theorem dX2_beginsToken_68 : decode cX2_beginsToken 68 = .ok (.ireturn, 1) := by decide +kernel
theorem dX2_keepToken_0 : decode cX2_keepToken 0 = .ok (.aload_n 1, 1) := by decide +kernel
theorem dX2_keepToken_1 : decode cX2_keepToken 1 = .ok (.iload_n 2, 1) := by decide +kernel
theorem dX2_keepToken_2 : decode cX2_keepToken 2 = .ok (.invokevirtual 131, 3) := by decide +kernel
theorem dX2_keepToken_5 : decode cX2_keepToken 5 = .ok (.istore_n 3, 1) := by decide +kernel
theorem dX2_keepToken_6 : decode cX2_keepToken 6 = .ok (.iload_n 3, 1) := by decide +kernel
theorem dX2_keepToken_7 : decode cX2_keepToken 7 = .ok (.invokestatic 135, 3) := by decide +kernel
theorem dX2_keepToken_10 : decode cX2_keepToken 10 = .ok (.ifCond .eq 36, 3) := by decide +kernel
theorem dX2_keepToken_13 : decode cX2_keepToken 13 = .ok (.aload_n 1, 1) := by decide +kernel
theorem dX2_keepToken_14 : decode cX2_keepToken 14 = .ok (.iload_n 2, 1) := by decide +kernel
theorem dX2_keepToken_15 : decode cX2_keepToken 15 = .ok (.aload_n 1, 1) := by decide +kernel
theorem dX2_keepToken_16 : decode cX2_keepToken 16 = .ok (.iload_n 2, 1) := by decide +kernel
theorem dX2_keepToken_17 : decode cX2_keepToken 17 = .ok (.invokestatic 145, 3) := by decide +kernel
theorem dX2_keepToken_20 : decode cX2_keepToken 20 = .ok (.invokestatic 149, 3) := by decide +kernel
theorem dX2_keepToken_23 : decode cX2_keepToken 23 = .ok (.istore 4, 2) := by decide +kernel
theorem dX2_keepToken_25 : decode cX2_keepToken 25 = .ok (.aload_n 0, 1) := by decide +kernel
theorem dX2_keepToken_26 : decode cX2_keepToken 26 = .ok (.iload 4, 2) := by decide +kernel
theorem dX2_keepToken_28 : decode cX2_keepToken 28 = .ok (.iconst (-1), 1) := by decide +kernel
theorem dX2_keepToken_29 : decode cX2_keepToken 29 = .ok (.if_icmp .ne 7, 3) := by decide +kernel
theorem dX2_keepToken_32 : decode cX2_keepToken 32 = .ok (.iconst 4, 1) := by decide +kernel
theorem dX2_keepToken_33 : decode cX2_keepToken 33 = .ok (.goto 4, 3) := by decide +kernel
theorem dX2_keepToken_36 : decode cX2_keepToken 36 = .ok (.iconst 1, 1) := by decide +kernel
theorem dX2_keepToken_37 : decode cX2_keepToken 37 = .ok (.iload 4, 2) := by decide +kernel
theorem dX2_keepToken_39 : decode cX2_keepToken 39 = .ok (.iload_n 2, 1) := by decide +kernel
theorem dX2_keepToken_40 : decode cX2_keepToken 40 = .ok (.invokevirtual 127, 3) := by decide +kernel
theorem dX2_keepToken_43 : decode cX2_keepToken 43 = .ok (.goto 62, 3) := by decide +kernel
theorem dX2_keepToken_46 : decode cX2_keepToken 46 = .ok (.iload_n 3, 1) := by decide +kernel
theorem dX2_keepToken_47 : decode cX2_keepToken 47 = .ok (.invokestatic 139, 3) := by decide +kernel
theorem dX2_keepToken_50 : decode cX2_keepToken 50 = .ok (.ifCond .eq 38, 3) := by decide +kernel
theorem dX2_keepToken_53 : decode cX2_keepToken 53 = .ok (.aload_n 1, 1) := by decide +kernel
theorem dX2_keepToken_54 : decode cX2_keepToken 54 = .ok (.iload_n 2, 1) := by decide +kernel
theorem dX2_keepToken_55 : decode cX2_keepToken 55 = .ok (.invokestatic 153, 3) := by decide +kernel
theorem dX2_keepToken_58 : decode cX2_keepToken 58 = .ok (.istore 4, 2) := by decide +kernel
theorem dX2_keepToken_60 : decode cX2_keepToken 60 = .ok (.aload_n 0, 1) := by decide +kernel
theorem dX2_keepToken_61 : decode cX2_keepToken 61 = .ok (.iload 4, 2) := by decide +kernel
theorem dX2_keepToken_63 : decode cX2_keepToken 63 = .ok (.iload_n 2, 1) := by decide +kernel
theorem dX2_keepToken_64 : decode cX2_keepToken 64 = .ok (.isub, 1) := by decide +kernel
theorem dX2_keepToken_65 : decode cX2_keepToken 65 = .ok (.iconst 2, 1) := by decide +kernel
theorem dX2_keepToken_66 : decode cX2_keepToken 66 = .ok (.if_icmp .le 7, 3) := by decide +kernel
theorem dX2_keepToken_69 : decode cX2_keepToken 69 = .ok (.iconst 4, 1) := by decide +kernel
theorem dX2_keepToken_70 : decode cX2_keepToken 70 = .ok (.goto 4, 3) := by decide +kernel
theorem dX2_keepToken_73 : decode cX2_keepToken 73 = .ok (.iconst 2, 1) := by decide +kernel
theorem dX2_keepToken_74 : decode cX2_keepToken 74 = .ok (.aload_n 1, 1) := by decide +kernel
theorem dX2_keepToken_75 : decode cX2_keepToken 75 = .ok (.iload_n 2, 1) := by decide +kernel
theorem dX2_keepToken_76 : decode cX2_keepToken 76 = .ok (.iload 4, 2) := by decide +kernel
theorem dX2_keepToken_78 : decode cX2_keepToken 78 = .ok (.invokestatic 156, 3) := by decide +kernel
theorem dX2_keepToken_81 : decode cX2_keepToken 81 = .ok (.iload_n 2, 1) := by decide +kernel
theorem dX2_keepToken_82 : decode cX2_keepToken 82 = .ok (.invokevirtual 127, 3) := by decide +kernel
theorem dX2_keepToken_85 : decode cX2_keepToken 85 = .ok (.goto 20, 3) := by decide +kernel
theorem dX2_keepToken_88 : decode cX2_keepToken 88 = .ok (.aload_n 0, 1) := by decide +kernel
theorem dX2_keepToken_89 : decode cX2_keepToken 89 = .ok (.iload_n 3, 1) := by decide +kernel
theorem dX2_keepToken_90 : decode cX2_keepToken 90 = .ok (.bipush 59, 2) := by decide +kernel
theorem dX2_keepToken_92 : decode cX2_keepToken 92 = .ok (.if_icmp .ne 7, 3) := by decide +kernel
theorem dX2_keepToken_95 : decode cX2_keepToken 95 = .ok (.iconst 3, 1) := by decide +kernel
theorem dX2_keepToken_96 : decode cX2_keepToken 96 = .ok (.goto 4, 3) := by decide +kernel
theorem dX2_keepToken_99 : decode cX2_keepToken 99 = .ok (.iconst 4, 1) := by decide +kernel
theorem dX2_keepToken_100 : decode cX2_keepToken 100 = .ok (.iconst (-1), 1) := by decide +kernel
theorem dX2_keepToken_101 : decode cX2_keepToken 101 = .ok (.iload_n 2, 1) := by decide +kernel
theorem dX2_keepToken_102 : decode cX2_keepToken 102 = .ok (.invokevirtual 127, 3) := by decide +kernel
theorem dX2_keepToken_105 : decode cX2_keepToken 105 = .ok (.return_, 1) := by decide +kernel
theorem dX2_keep_0 : decode cX2_keep 0 = .ok (.aload_n 0, 1) := by decide +kernel
theorem dX2_keep_1 : decode cX2_keep 1 = .ok (.getfield 21, 3) := by decide +kernel
theorem dX2_keep_4 : decode cX2_keep 4 = .ok (.sipush 201, 3) := by decide +kernel
theorem dX2_keep_7 : decode cX2_keep 7 = .ok (.if_icmp .ge 43, 3) := by decide +kernel
theorem dX2_keep_10 : decode cX2_keep 10 = .ok (.aload_n 0, 1) := by decide +kernel
theorem dX2_keep_11 : decode cX2_keep 11 = .ok (.getfield 11, 3) := by decide +kernel
theorem dX2_keep_14 : decode cX2_keep 14 = .ok (.aload_n 0, 1) := by decide +kernel
theorem dX2_keep_15 : decode cX2_keep 15 = .ok (.getfield 21, 3) := by decide +kernel
theorem dX2_keep_18 : decode cX2_keep 18 = .ok (.iload_n 1, 1) := by decide +kernel
theorem dX2_keep_19 : decode cX2_keep 19 = .ok (.iastore, 1) := by decide +kernel
theorem dX2_keep_20 : decode cX2_keep 20 = .ok (.aload_n 0, 1) := by decide +kernel
theorem dX2_keep_21 : decode cX2_keep 21 = .ok (.getfield 15, 3) := by decide +kernel
theorem dX2_keep_24 : decode cX2_keep 24 = .ok (.aload_n 0, 1) := by decide +kernel
theorem dX2_keep_25 : decode cX2_keep 25 = .ok (.getfield 21, 3) := by decide +kernel
theorem dX2_keep_28 : decode cX2_keep 28 = .ok (.iload_n 2, 1) := by decide +kernel
theorem dX2_keep_29 : decode cX2_keep 29 = .ok (.iastore, 1) := by decide +kernel
theorem dX2_keep_30 : decode cX2_keep 30 = .ok (.aload_n 0, 1) := by decide +kernel
theorem dX2_keep_31 : decode cX2_keep 31 = .ok (.getfield 18, 3) := by decide +kernel
theorem dX2_keep_34 : decode cX2_keep 34 = .ok (.aload_n 0, 1) := by decide +kernel
theorem dX2_keep_35 : decode cX2_keep 35 = .ok (.getfield 21, 3) := by decide +kernel
theorem dX2_keep_38 : decode cX2_keep 38 = .ok (.iload_n 3, 1) := by decide +kernel
theorem dX2_keep_39 : decode cX2_keep 39 = .ok (.iastore, 1) := by decide +kernel
theorem dX2_keep_40 : decode cX2_keep 40 = .ok (.aload_n 0, 1) := by decide +kernel
theorem dX2_keep_41 : decode cX2_keep 41 = .ok (.dup, 1) := by decide +kernel
theorem dX2_keep_42 : decode cX2_keep 42 = .ok (.getfield 21, 3) := by decide +kernel
theorem dX2_keep_45 : decode cX2_keep 45 = .ok (.iconst 1, 1) := by decide +kernel
theorem dX2_keep_46 : decode cX2_keep 46 = .ok (.iadd, 1) := by decide +kernel
theorem dX2_keep_47 : decode cX2_keep 47 = .ok (.putfield 21, 3) := by decide +kernel
theorem dX2_keep_50 : decode cX2_keep 50 = .ok (.return_, 1) := by decide +kernel
theorem dX2_endOfLetters_0 : decode cX2_endOfLetters 0 = .ok (.iload_n 1, 1) := by decide +kernel
theorem dX2_endOfLetters_1 : decode cX2_endOfLetters 1 = .ok (.iconst 1, 1) := by decide +kernel
theorem dX2_endOfLetters_2 : decode cX2_endOfLetters 2 = .ok (.iadd, 1) := by decide +kernel
theorem dX2_endOfLetters_3 : decode cX2_endOfLetters 3 = .ok (.istore_n 2, 1) := by decide +kernel
theorem dX2_endOfLetters_4 : decode cX2_endOfLetters 4 = .ok (.iload_n 2, 1) := by decide +kernel
theorem dX2_endOfLetters_5 : decode cX2_endOfLetters 5 = .ok (.aload_n 0, 1) := by decide +kernel
theorem dX2_endOfLetters_6 : decode cX2_endOfLetters 6 = .ok (.invokevirtual 114, 3) := by decide +kernel
theorem dX2_endOfLetters_9 : decode cX2_endOfLetters 9 = .ok (.if_icmp .ge 20, 3) := by decide +kernel
theorem dX2_endOfLetters_12 : decode cX2_endOfLetters 12 = .ok (.aload_n 0, 1) := by decide +kernel
theorem dX2_endOfLetters_13 : decode cX2_endOfLetters 13 = .ok (.iload_n 2, 1) := by decide +kernel
theorem dX2_endOfLetters_14 : decode cX2_endOfLetters 14 = .ok (.invokevirtual 131, 3) := by decide +kernel
theorem dX2_endOfLetters_17 : decode cX2_endOfLetters 17 = .ok (.invokestatic 135, 3) := by decide +kernel
theorem dX2_endOfLetters_20 : decode cX2_endOfLetters 20 = .ok (.ifCond .eq 9, 3) := by decide +kernel
theorem dX2_endOfLetters_23 : decode cX2_endOfLetters 23 = .ok (.iinc 2 1, 3) := by decide +kernel
theorem dX2_endOfLetters_26 : decode cX2_endOfLetters 26 = .ok (.goto (-22), 3) := by decide +kernel
theorem dX2_endOfLetters_29 : decode cX2_endOfLetters 29 = .ok (.iload_n 2, 1) := by decide +kernel
theorem dX2_endOfLetters_30 : decode cX2_endOfLetters 30 = .ok (.ireturn, 1) := by decide +kernel
theorem dX2_endOfDigits_0 : decode cX2_endOfDigits 0 = .ok (.iload_n 1, 1) := by decide +kernel
theorem dX2_endOfDigits_1 : decode cX2_endOfDigits 1 = .ok (.iconst 1, 1) := by decide +kernel
theorem dX2_endOfDigits_2 : decode cX2_endOfDigits 2 = .ok (.iadd, 1) := by decide +kernel
theorem dX2_endOfDigits_3 : decode cX2_endOfDigits 3 = .ok (.istore_n 2, 1) := by decide +kernel
theorem dX2_endOfDigits_4 : decode cX2_endOfDigits 4 = .ok (.iload_n 2, 1) := by decide +kernel
theorem dX2_endOfDigits_5 : decode cX2_endOfDigits 5 = .ok (.aload_n 0, 1) := by decide +kernel
theorem dX2_endOfDigits_6 : decode cX2_endOfDigits 6 = .ok (.invokevirtual 114, 3) := by decide +kernel
theorem dX2_endOfDigits_9 : decode cX2_endOfDigits 9 = .ok (.if_icmp .ge 20, 3) := by decide +kernel
theorem dX2_endOfDigits_12 : decode cX2_endOfDigits 12 = .ok (.aload_n 0, 1) := by decide +kernel
theorem dX2_endOfDigits_13 : decode cX2_endOfDigits 13 = .ok (.iload_n 2, 1) := by decide +kernel
theorem dX2_endOfDigits_14 : decode cX2_endOfDigits 14 = .ok (.invokevirtual 131, 3) := by decide +kernel
theorem dX2_endOfDigits_17 : decode cX2_endOfDigits 17 = .ok (.invokestatic 139, 3) := by decide +kernel
theorem dX2_endOfDigits_20 : decode cX2_endOfDigits 20 = .ok (.ifCond .eq 9, 3) := by decide +kernel
theorem dX2_endOfDigits_23 : decode cX2_endOfDigits 23 = .ok (.iinc 2 1, 3) := by decide +kernel
theorem dX2_endOfDigits_26 : decode cX2_endOfDigits 26 = .ok (.goto (-22), 3) := by decide +kernel
theorem dX2_endOfDigits_29 : decode cX2_endOfDigits 29 = .ok (.iload_n 2, 1) := by decide +kernel
theorem dX2_endOfDigits_30 : decode cX2_endOfDigits 30 = .ok (.ireturn, 1) := by decide +kernel
theorem dX2_numberAt_0 : decode cX2_numberAt 0 = .ok (.iconst 0, 1) := by decide +kernel
theorem dX2_numberAt_1 : decode cX2_numberAt 1 = .ok (.istore_n 3, 1) := by decide +kernel
theorem dX2_numberAt_2 : decode cX2_numberAt 2 = .ok (.iload_n 1, 1) := by decide +kernel
theorem dX2_numberAt_3 : decode cX2_numberAt 3 = .ok (.istore 4, 2) := by decide +kernel
theorem dX2_numberAt_5 : decode cX2_numberAt 5 = .ok (.iload 4, 2) := by decide +kernel
theorem dX2_numberAt_7 : decode cX2_numberAt 7 = .ok (.iload_n 2, 1) := by decide +kernel
theorem dX2_numberAt_8 : decode cX2_numberAt 8 = .ok (.if_icmp .ge 32, 3) := by decide +kernel
theorem dX2_numberAt_11 : decode cX2_numberAt 11 = .ok (.iload 4, 2) := by decide +kernel
theorem dX2_numberAt_13 : decode cX2_numberAt 13 = .ok (.iload_n 1, 1) := by decide +kernel
theorem dX2_numberAt_14 : decode cX2_numberAt 14 = .ok (.iconst 2, 1) := by decide +kernel
theorem dX2_numberAt_15 : decode cX2_numberAt 15 = .ok (.iadd, 1) := by decide +kernel
theorem dX2_numberAt_16 : decode cX2_numberAt 16 = .ok (.if_icmp .ge 24, 3) := by decide +kernel
theorem dX2_numberAt_19 : decode cX2_numberAt 19 = .ok (.bipush 10, 2) := by decide +kernel
theorem dX2_numberAt_21 : decode cX2_numberAt 21 = .ok (.iload_n 3, 1) := by decide +kernel
theorem dX2_numberAt_22 : decode cX2_numberAt 22 = .ok (.imul, 1) := by decide +kernel
theorem dX2_numberAt_23 : decode cX2_numberAt 23 = .ok (.aload_n 0, 1) := by decide +kernel
theorem dX2_numberAt_24 : decode cX2_numberAt 24 = .ok (.iload 4, 2) := by decide +kernel
theorem dX2_numberAt_26 : decode cX2_numberAt 26 = .ok (.invokevirtual 131, 3) := by decide +kernel
theorem dX2_numberAt_29 : decode cX2_numberAt 29 = .ok (.iadd, 1) := by decide +kernel
theorem dX2_numberAt_30 : decode cX2_numberAt 30 = .ok (.bipush 48, 2) := by decide +kernel
theorem dX2_numberAt_32 : decode cX2_numberAt 32 = .ok (.isub, 1) := by decide +kernel
theorem dX2_numberAt_33 : decode cX2_numberAt 33 = .ok (.istore_n 3, 1) := by decide +kernel
theorem dX2_numberAt_34 : decode cX2_numberAt 34 = .ok (.iinc 4 1, 3) := by decide +kernel
theorem dX2_numberAt_37 : decode cX2_numberAt 37 = .ok (.goto (-32), 3) := by decide +kernel
theorem dX2_numberAt_40 : decode cX2_numberAt 40 = .ok (.iload_n 3, 1) := by decide +kernel
theorem dX2_numberAt_41 : decode cX2_numberAt 41 = .ok (.ireturn, 1) := by decide +kernel
theorem dX2_wordNumber_0 : decode cX2_wordNumber 0 = .ok (.iload_n 2, 1) := by decide +kernel
theorem dX2_wordNumber_1 : decode cX2_wordNumber 1 = .ok (.iload_n 1, 1) := by decide +kernel
theorem dX2_wordNumber_2 : decode cX2_wordNumber 2 = .ok (.isub, 1) := by decide +kernel
theorem dX2_wordNumber_3 : decode cX2_wordNumber 3 = .ok (.bipush 6, 2) := by decide +kernel
theorem dX2_wordNumber_5 : decode cX2_wordNumber 5 = .ok (.if_icmp .le 5, 3) := by decide +kernel
theorem dX2_wordNumber_8 : decode cX2_wordNumber 8 = .ok (.iconst (-1), 1) := by decide +kernel
theorem dX2_wordNumber_9 : decode cX2_wordNumber 9 = .ok (.ireturn, 1) := by decide +kernel
theorem dX2_wordNumber_10 : decode cX2_wordNumber 10 = .ok (.iconst 0, 1) := by decide +kernel
theorem dX2_wordNumber_11 : decode cX2_wordNumber 11 = .ok (.istore_n 3, 1) := by decide +kernel
theorem dX2_wordNumber_12 : decode cX2_wordNumber 12 = .ok (.iload_n 3, 1) := by decide +kernel
theorem dX2_wordNumber_13 : decode cX2_wordNumber 13 = .ok (.bipush 18, 2) := by decide +kernel
theorem dX2_wordNumber_15 : decode cX2_wordNumber 15 = .ok (.if_icmp .ge 21, 3) := by decide +kernel
theorem dX2_wordNumber_18 : decode cX2_wordNumber 18 = .ok (.iload_n 3, 1) := by decide +kernel
theorem dX2_wordNumber_19 : decode cX2_wordNumber 19 = .ok (.aload_n 0, 1) := by decide +kernel
theorem dX2_wordNumber_20 : decode cX2_wordNumber 20 = .ok (.iload_n 1, 1) := by decide +kernel
theorem dX2_wordNumber_21 : decode cX2_wordNumber 21 = .ok (.iload_n 2, 1) := by decide +kernel
theorem dX2_wordNumber_22 : decode cX2_wordNumber 22 = .ok (.invokestatic 159, 3) := by decide +kernel
theorem dX2_wordNumber_25 : decode cX2_wordNumber 25 = .ok (.ifCond .eq 5, 3) := by decide +kernel
theorem dX2_wordNumber_28 : decode cX2_wordNumber 28 = .ok (.iload_n 3, 1) := by decide +kernel
theorem dX2_wordNumber_29 : decode cX2_wordNumber 29 = .ok (.ireturn, 1) := by decide +kernel
theorem dX2_wordNumber_30 : decode cX2_wordNumber 30 = .ok (.iinc 3 1, 3) := by decide +kernel
theorem dX2_wordNumber_33 : decode cX2_wordNumber 33 = .ok (.goto (-21), 3) := by decide +kernel
theorem dX2_wordNumber_36 : decode cX2_wordNumber 36 = .ok (.iconst (-1), 1) := by decide +kernel
theorem dX2_wordNumber_37 : decode cX2_wordNumber 37 = .ok (.ireturn, 1) := by decide +kernel
theorem dX2_isWord_0 : decode cX2_isWord 0 = .ok (.iconst 0, 1) := by decide +kernel
theorem dX2_isWord_1 : decode cX2_isWord 1 = .ok (.istore 4, 2) := by decide +kernel
theorem dX2_isWord_3 : decode cX2_isWord 3 = .ok (.iload 4, 2) := by decide +kernel
theorem dX2_isWord_5 : decode cX2_isWord 5 = .ok (.bipush 6, 2) := by decide +kernel
theorem dX2_isWord_7 : decode cX2_isWord 7 = .ok (.if_icmp .ge 74, 3) := by decide +kernel
theorem dX2_isWord_10 : decode cX2_isWord 10 = .ok (.iload_n 0, 1) := by decide +kernel
theorem dX2_isWord_11 : decode cX2_isWord 11 = .ok (.bipush 6, 2) := by decide +kernel
theorem dX2_isWord_13 : decode cX2_isWord 13 = .ok (.imul, 1) := by decide +kernel
theorem dX2_isWord_14 : decode cX2_isWord 14 = .ok (.iload 4, 2) := by decide +kernel
theorem dX2_isWord_16 : decode cX2_isWord 16 = .ok (.iadd, 1) := by decide +kernel
theorem dX2_isWord_17 : decode cX2_isWord 17 = .ok (.istore 5, 2) := by decide +kernel
theorem dX2_isWord_19 : decode cX2_isWord 19 = .ok (.iload 5, 2) := by decide +kernel
theorem dX2_isWord_21 : decode cX2_isWord 21 = .ok (.ldc 163, 2) := by decide +kernel
theorem dX2_isWord_23 : decode cX2_isWord 23 = .ok (.invokevirtual 165, 3) := by decide +kernel
theorem dX2_isWord_26 : decode cX2_isWord 26 = .ok (.if_icmp .ge 13, 3) := by decide +kernel
theorem dX2_isWord_29 : decode cX2_isWord 29 = .ok (.ldc 163, 2) := by decide +kernel
theorem dX2_isWord_31 : decode cX2_isWord 31 = .ok (.iload 5, 2) := by decide +kernel
theorem dX2_isWord_33 : decode cX2_isWord 33 = .ok (.invokevirtual 170, 3) := by decide +kernel
theorem dX2_isWord_36 : decode cX2_isWord 36 = .ok (.goto 5, 3) := by decide +kernel
theorem dX2_isWord_39 : decode cX2_isWord 39 = .ok (.bipush 32, 2) := by decide +kernel
theorem dX2_isWord_41 : decode cX2_isWord 41 = .ok (.istore 6, 2) := by decide +kernel
theorem dX2_isWord_43 : decode cX2_isWord 43 = .ok (.iload_n 2, 1) := by decide +kernel
theorem dX2_isWord_44 : decode cX2_isWord 44 = .ok (.iload 4, 2) := by decide +kernel
theorem dX2_isWord_46 : decode cX2_isWord 46 = .ok (.iadd, 1) := by decide +kernel
theorem dX2_isWord_47 : decode cX2_isWord 47 = .ok (.iload_n 3, 1) := by decide +kernel
theorem dX2_isWord_48 : decode cX2_isWord 48 = .ok (.if_icmp .ge 14, 3) := by decide +kernel
theorem dX2_isWord_51 : decode cX2_isWord 51 = .ok (.aload_n 1, 1) := by decide +kernel
theorem dX2_isWord_52 : decode cX2_isWord 52 = .ok (.iload_n 2, 1) := by decide +kernel
theorem dX2_isWord_53 : decode cX2_isWord 53 = .ok (.iload 4, 2) := by decide +kernel
theorem dX2_isWord_55 : decode cX2_isWord 55 = .ok (.iadd, 1) := by decide +kernel
theorem dX2_isWord_56 : decode cX2_isWord 56 = .ok (.invokevirtual 131, 3) := by decide +kernel
theorem dX2_isWord_59 : decode cX2_isWord 59 = .ok (.goto 5, 3) := by decide +kernel
theorem dX2_isWord_62 : decode cX2_isWord 62 = .ok (.bipush 32, 2) := by decide +kernel
theorem dX2_isWord_64 : decode cX2_isWord 64 = .ok (.istore 7, 2) := by decide +kernel
theorem dX2_isWord_66 : decode cX2_isWord 66 = .ok (.iload 6, 2) := by decide +kernel
theorem dX2_isWord_68 : decode cX2_isWord 68 = .ok (.iload 7, 2) := by decide +kernel
theorem dX2_isWord_70 : decode cX2_isWord 70 = .ok (.if_icmp .eq 5, 3) := by decide +kernel
theorem dX2_isWord_73 : decode cX2_isWord 73 = .ok (.iconst 0, 1) := by decide +kernel
theorem dX2_isWord_74 : decode cX2_isWord 74 = .ok (.ireturn, 1) := by decide +kernel
theorem dX2_isWord_75 : decode cX2_isWord 75 = .ok (.iinc 4 1, 3) := by decide +kernel
theorem dX2_isWord_78 : decode cX2_isWord 78 = .ok (.goto (-75), 3) := by decide +kernel
theorem dX2_isWord_81 : decode cX2_isWord 81 = .ok (.iconst 1, 1) := by decide +kernel
theorem dX2_isWord_82 : decode cX2_isWord 82 = .ok (.ireturn, 1) := by decide +kernel
theorem dX2_isBlank_0 : decode cX2_isBlank 0 = .ok (.iload_n 0, 1) := by decide +kernel
theorem dX2_isBlank_1 : decode cX2_isBlank 1 = .ok (.bipush 32, 2) := by decide +kernel
theorem dX2_isBlank_3 : decode cX2_isBlank 3 = .ok (.if_icmp .eq 9, 3) := by decide +kernel
theorem dX2_isBlank_6 : decode cX2_isBlank 6 = .ok (.iload_n 0, 1) := by decide +kernel
theorem dX2_isBlank_7 : decode cX2_isBlank 7 = .ok (.bipush 10, 2) := by decide +kernel
theorem dX2_isBlank_9 : decode cX2_isBlank 9 = .ok (.if_icmp .ne 7, 3) := by decide +kernel
theorem dX2_isBlank_12 : decode cX2_isBlank 12 = .ok (.iconst 1, 1) := by decide +kernel
theorem dX2_isBlank_13 : decode cX2_isBlank 13 = .ok (.goto 4, 3) := by decide +kernel
theorem dX2_isBlank_16 : decode cX2_isBlank 16 = .ok (.iconst 0, 1) := by decide +kernel
theorem dX2_isBlank_17 : decode cX2_isBlank 17 = .ok (.ireturn, 1) := by decide +kernel
theorem dX2_isLetter_0 : decode cX2_isLetter 0 = .ok (.iload_n 0, 1) := by decide +kernel
theorem dX2_isLetter_1 : decode cX2_isLetter 1 = .ok (.bipush 97, 2) := by decide +kernel
theorem dX2_isLetter_3 : decode cX2_isLetter 3 = .ok (.if_icmp .lt 9, 3) := by decide +kernel
theorem dX2_isLetter_6 : decode cX2_isLetter 6 = .ok (.iload_n 0, 1) := by decide +kernel
theorem dX2_isLetter_7 : decode cX2_isLetter 7 = .ok (.bipush 122, 2) := by decide +kernel
theorem dX2_isLetter_9 : decode cX2_isLetter 9 = .ok (.if_icmp .le 15, 3) := by decide +kernel
theorem dX2_isLetter_12 : decode cX2_isLetter 12 = .ok (.iload_n 0, 1) := by decide +kernel
theorem dX2_isLetter_13 : decode cX2_isLetter 13 = .ok (.bipush 65, 2) := by decide +kernel
theorem dX2_isLetter_15 : decode cX2_isLetter 15 = .ok (.if_icmp .lt 13, 3) := by decide +kernel
theorem dX2_isLetter_18 : decode cX2_isLetter 18 = .ok (.iload_n 0, 1) := by decide +kernel
theorem dX2_isLetter_19 : decode cX2_isLetter 19 = .ok (.bipush 90, 2) := by decide +kernel
theorem dX2_isLetter_21 : decode cX2_isLetter 21 = .ok (.if_icmp .gt 7, 3) := by decide +kernel
theorem dX2_isLetter_24 : decode cX2_isLetter 24 = .ok (.iconst 1, 1) := by decide +kernel
theorem dX2_isLetter_25 : decode cX2_isLetter 25 = .ok (.goto 4, 3) := by decide +kernel
theorem dX2_isLetter_28 : decode cX2_isLetter 28 = .ok (.iconst 0, 1) := by decide +kernel
theorem dX2_isLetter_29 : decode cX2_isLetter 29 = .ok (.ireturn, 1) := by decide +kernel
theorem dX2_isDigit_0 : decode cX2_isDigit 0 = .ok (.iload_n 0, 1) := by decide +kernel
theorem dX2_isDigit_1 : decode cX2_isDigit 1 = .ok (.bipush 48, 2) := by decide +kernel
theorem dX2_isDigit_3 : decode cX2_isDigit 3 = .ok (.if_icmp .lt 13, 3) := by decide +kernel
theorem dX2_isDigit_6 : decode cX2_isDigit 6 = .ok (.iload_n 0, 1) := by decide +kernel
theorem dX2_isDigit_7 : decode cX2_isDigit 7 = .ok (.bipush 57, 2) := by decide +kernel
theorem dX2_isDigit_9 : decode cX2_isDigit 9 = .ok (.if_icmp .gt 7, 3) := by decide +kernel
theorem dX2_isDigit_12 : decode cX2_isDigit 12 = .ok (.iconst 1, 1) := by decide +kernel
theorem dX2_isDigit_13 : decode cX2_isDigit 13 = .ok (.goto 4, 3) := by decide +kernel
theorem dX2_isDigit_16 : decode cX2_isDigit 16 = .ok (.iconst 0, 1) := by decide +kernel
theorem dX2_isDigit_17 : decode cX2_isDigit 17 = .ok (.ireturn, 1) := by decide +kernel
theorem dX3_init_0 : decode cX3_init 0 = .ok (.aload_n 0, 1) := by decide +kernel
theorem dX3_init_1 : decode cX3_init 1 = .ok (.invokespecial 3, 3) := by decide +kernel
theorem dX3_init_4 : decode cX3_init 4 = .ok (.aload_n 0, 1) := by decide +kernel
theorem dX3_init_5 : decode cX3_init 5 = .ok (.iconst 0, 1) := by decide +kernel
theorem dX3_init_6 : decode cX3_init 6 = .ok (.putfield 9, 3) := by decide +kernel
theorem dX3_init_9 : decode cX3_init 9 = .ok (.aload_n 0, 1) := by decide +kernel
theorem dX3_init_10 : decode cX3_init 10 = .ok (.bipush 16, 2) := by decide +kernel
theorem dX3_init_12 : decode cX3_init 12 = .ok (.newarray .int, 2) := by decide +kernel
theorem dX3_init_14 : decode cX3_init 14 = .ok (.putfield 15, 3) := by decide +kernel
theorem dX3_init_17 : decode cX3_init 17 = .ok (.aload_n 0, 1) := by decide +kernel
theorem dX3_init_18 : decode cX3_init 18 = .ok (.bipush 16, 2) := by decide +kernel
theorem dX3_init_20 : decode cX3_init 20 = .ok (.newarray .int, 2) := by decide +kernel
theorem dX3_init_22 : decode cX3_init 22 = .ok (.putfield 19, 3) := by decide +kernel
theorem dX3_init_25 : decode cX3_init 25 = .ok (.aload_n 0, 1) := by decide +kernel
theorem dX3_init_26 : decode cX3_init 26 = .ok (.bipush 8, 2) := by decide +kernel
theorem dX3_init_28 : decode cX3_init 28 = .ok (.newarray .int, 2) := by decide +kernel
theorem dX3_init_30 : decode cX3_init 30 = .ok (.putfield 22, 3) := by decide +kernel
theorem dX3_init_33 : decode cX3_init 33 = .ok (.aload_n 0, 1) := by decide +kernel
theorem dX3_init_34 : decode cX3_init 34 = .ok (.bipush 8, 2) := by decide +kernel
theorem dX3_init_36 : decode cX3_init 36 = .ok (.newarray .int, 2) := by decide +kernel
theorem dX3_init_38 : decode cX3_init 38 = .ok (.putfield 25, 3) := by decide +kernel
theorem dX3_init_41 : decode cX3_init 41 = .ok (.aload_n 0, 1) := by decide +kernel
theorem dX3_init_42 : decode cX3_init 42 = .ok (.iconst 0, 1) := by decide +kernel
theorem dX3_init_43 : decode cX3_init 43 = .ok (.putfield 28, 3) := by decide +kernel
theorem dX3_init_46 : decode cX3_init 46 = .ok (.aload_n 0, 1) := by decide +kernel
theorem dX3_init_47 : decode cX3_init 47 = .ok (.bipush 8, 2) := by decide +kernel
theorem dX3_init_49 : decode cX3_init 49 = .ok (.newarray .int, 2) := by decide +kernel
theorem dX3_init_51 : decode cX3_init 51 = .ok (.putfield 31, 3) := by decide +kernel
theorem dX3_init_54 : decode cX3_init 54 = .ok (.aload_n 0, 1) := by decide +kernel
theorem dX3_init_55 : decode cX3_init 55 = .ok (.bipush 8, 2) := by decide +kernel
theorem dX3_init_57 : decode cX3_init 57 = .ok (.newarray .long, 2) := by decide +kernel
theorem dX3_init_59 : decode cX3_init 59 = .ok (.putfield 34, 3) := by decide +kernel
theorem dX3_init_62 : decode cX3_init 62 = .ok (.aload_n 0, 1) := by decide +kernel
theorem dX3_init_63 : decode cX3_init 63 = .ok (.sipush 128, 3) := by decide +kernel
theorem dX3_init_66 : decode cX3_init 66 = .ok (.newarray .int, 2) := by decide +kernel
theorem dX3_init_68 : decode cX3_init 68 = .ok (.putfield 38, 3) := by decide +kernel
theorem dX3_init_71 : decode cX3_init 71 = .ok (.aload_n 0, 1) := by decide +kernel
theorem dX3_init_72 : decode cX3_init 72 = .ok (.getfield 19, 3) := by decide +kernel
theorem dX3_init_75 : decode cX3_init 75 = .ok (.iconst (-1), 1) := by decide +kernel
theorem dX3_init_76 : decode cX3_init 76 = .ok (.invokestatic 41, 3) := by decide +kernel
theorem dX3_init_79 : decode cX3_init 79 = .ok (.return_, 1) := by decide +kernel
theorem dX3_gather_0 : decode cX3_gather 0 = .ok (.aload_n 0, 1) := by decide +kernel
theorem dX3_gather_1 : decode cX3_gather 1 = .ok (.iconst 0, 1) := by decide +kernel
theorem dX3_gather_2 : decode cX3_gather 2 = .ok (.putfield 9, 3) := by decide +kernel
theorem dX3_gather_5 : decode cX3_gather 5 = .ok (.aload_n 0, 1) := by decide +kernel
theorem dX3_gather_6 : decode cX3_gather 6 = .ok (.iconst 0, 1) := by decide +kernel
theorem dX3_gather_7 : decode cX3_gather 7 = .ok (.putfield 28, 3) := by decide +kernel
theorem dX3_gather_10 : decode cX3_gather 10 = .ok (.aload_n 0, 1) := by decide +kernel
theorem dX3_gather_11 : decode cX3_gather 11 = .ok (.getfield 15, 3) := by decide +kernel
theorem dX3_gather_14 : decode cX3_gather 14 = .ok (.iconst 0, 1) := by decide +kernel
theorem dX3_gather_15 : decode cX3_gather 15 = .ok (.invokestatic 41, 3) := by decide +kernel
theorem dX3_gather_18 : decode cX3_gather 18 = .ok (.aload_n 0, 1) := by decide +kernel
theorem dX3_gather_19 : decode cX3_gather 19 = .ok (.getfield 19, 3) := by decide +kernel
theorem dX3_gather_22 : decode cX3_gather 22 = .ok (.iconst (-1), 1) := by decide +kernel
theorem dX3_gather_23 : decode cX3_gather 23 = .ok (.invokestatic 41, 3) := by decide +kernel
theorem dX3_gather_26 : decode cX3_gather 26 = .ok (.aload_n 0, 1) := by decide +kernel
theorem dX3_gather_27 : decode cX3_gather 27 = .ok (.getfield 25, 3) := by decide +kernel
theorem dX3_gather_30 : decode cX3_gather 30 = .ok (.iconst 0, 1) := by decide +kernel
theorem dX3_gather_31 : decode cX3_gather 31 = .ok (.invokestatic 41, 3) := by decide +kernel
theorem dX3_gather_34 : decode cX3_gather 34 = .ok (.iconst 0, 1) := by decide +kernel
theorem dX3_gather_35 : decode cX3_gather 35 = .ok (.istore_n 3, 1) := by decide +kernel
theorem dX3_gather_36 : decode cX3_gather 36 = .ok (.iload_n 3, 1) := by decide +kernel
theorem dX3_gather_37 : decode cX3_gather 37 = .ok (.bipush 48, 2) := by decide +kernel
theorem dX3_gather_39 : decode cX3_gather 39 = .ok (.if_icmp .ge 57, 3) := by decide +kernel
theorem dX3_gather_42 : decode cX3_gather 42 = .ok (.aload_n 2, 1) := by decide +kernel
theorem dX3_gather_43 : decode cX3_gather 43 = .ok (.iload_n 3, 1) := by decide +kernel
theorem dX3_gather_44 : decode cX3_gather 44 = .ok (.invokevirtual 47, 3) := by decide +kernel
theorem dX3_gather_47 : decode cX3_gather 47 = .ok (.istore 4, 2) := by decide +kernel
theorem dX3_gather_49 : decode cX3_gather 49 = .ok (.aload_n 2, 1) := by decide +kernel
theorem dX3_gather_50 : decode cX3_gather 50 = .ok (.aload_n 1, 1) := by decide +kernel
theorem dX3_gather_51 : decode cX3_gather 51 = .ok (.iload_n 3, 1) := by decide +kernel
theorem dX3_gather_52 : decode cX3_gather 52 = .ok (.invokevirtual 53, 3) := by decide +kernel
theorem dX3_gather_55 : decode cX3_gather 55 = .ok (.invokevirtual 47, 3) := by decide +kernel
theorem dX3_gather_58 : decode cX3_gather 58 = .ok (.istore 5, 2) := by decide +kernel
theorem dX3_gather_60 : decode cX3_gather 60 = .ok (.iload 4, 2) := by decide +kernel
theorem dX3_gather_62 : decode cX3_gather 62 = .ok (.invokestatic 58, 3) := by decide +kernel
theorem dX3_gather_65 : decode cX3_gather 65 = .ok (.ifCond .eq 25, 3) := by decide +kernel
theorem dX3_gather_68 : decode cX3_gather 68 = .ok (.iload 5, 2) := by decide +kernel
theorem dX3_gather_70 : decode cX3_gather 70 = .ok (.invokestatic 58, 3) := by decide +kernel
theorem dX3_gather_73 : decode cX3_gather 73 = .ok (.ifCond .eq 17, 3) := by decide +kernel
theorem dX3_gather_76 : decode cX3_gather 76 = .ok (.aload_n 0, 1) := by decide +kernel
theorem dX3_gather_77 : decode cX3_gather 77 = .ok (.getfield 15, 3) := by decide +kernel
theorem dX3_gather_80 : decode cX3_gather 80 = .ok (.iload 4, 2) := by decide +kernel
theorem dX3_gather_82 : decode cX3_gather 82 = .ok (.dup2, 1) := by decide +kernel
theorem dX3_gather_83 : decode cX3_gather 83 = .ok (.iaload, 1) := by decide +kernel
theorem dX3_gather_84 : decode cX3_gather 84 = .ok (.iconst 1, 1) := by decide +kernel
theorem dX3_gather_85 : decode cX3_gather 85 = .ok (.iload 5, 2) := by decide +kernel
theorem dX3_gather_87 : decode cX3_gather 87 = .ok (.ishl, 1) := by decide +kernel
theorem dX3_gather_88 : decode cX3_gather 88 = .ok (.ior, 1) := by decide +kernel
theorem dX3_gather_89 : decode cX3_gather 89 = .ok (.iastore, 1) := by decide +kernel
theorem dX3_gather_90 : decode cX3_gather 90 = .ok (.iinc 3 1, 3) := by decide +kernel
theorem dX3_gather_93 : decode cX3_gather 93 = .ok (.goto (-57), 3) := by decide +kernel
theorem dX3_gather_96 : decode cX3_gather 96 = .ok (.iconst 0, 1) := by decide +kernel
theorem dX3_gather_97 : decode cX3_gather 97 = .ok (.istore_n 3, 1) := by decide +kernel
theorem dX3_gather_98 : decode cX3_gather 98 = .ok (.iload_n 3, 1) := by decide +kernel
theorem dX3_gather_99 : decode cX3_gather 99 = .ok (.bipush 16, 2) := by decide +kernel
theorem dX3_gather_101 : decode cX3_gather 101 = .ok (.if_icmp .ge 33, 3) := by decide +kernel
theorem dX3_gather_104 : decode cX3_gather 104 = .ok (.aload_n 0, 1) := by decide +kernel
theorem dX3_gather_105 : decode cX3_gather 105 = .ok (.getfield 15, 3) := by decide +kernel
theorem dX3_gather_108 : decode cX3_gather 108 = .ok (.iload_n 3, 1) := by decide +kernel
theorem dX3_gather_109 : decode cX3_gather 109 = .ok (.iaload, 1) := by decide +kernel
theorem dX3_gather_110 : decode cX3_gather 110 = .ok (.ifCond .eq 18, 3) := by decide +kernel
theorem dX3_gather_113 : decode cX3_gather 113 = .ok (.aload_n 0, 1) := by decide +kernel
theorem dX3_gather_114 : decode cX3_gather 114 = .ok (.getfield 19, 3) := by decide +kernel
theorem dX3_gather_117 : decode cX3_gather 117 = .ok (.iload_n 3, 1) := by decide +kernel
theorem dX3_gather_118 : decode cX3_gather 118 = .ok (.iaload, 1) := by decide +kernel
theorem dX3_gather_119 : decode cX3_gather 119 = .ok (.iconst (-1), 1) := by decide +kernel
theorem dX3_gather_120 : decode cX3_gather 120 = .ok (.if_icmp .ne 8, 3) := by decide +kernel
theorem dX3_gather_123 : decode cX3_gather 123 = .ok (.aload_n 0, 1) := by decide +kernel
theorem dX3_gather_124 : decode cX3_gather 124 = .ok (.iload_n 3, 1) := by decide +kernel
theorem dX3_gather_125 : decode cX3_gather 125 = .ok (.invokevirtual 62, 3) := by decide +kernel
theorem dX3_gather_128 : decode cX3_gather 128 = .ok (.iinc 3 1, 3) := by decide +kernel
theorem dX3_gather_131 : decode cX3_gather 131 = .ok (.goto (-33), 3) := by decide +kernel
theorem dX3_gather_134 : decode cX3_gather 134 = .ok (.aload_n 0, 1) := by decide +kernel
theorem dX3_gather_135 : decode cX3_gather 135 = .ok (.aload_n 1, 1) := by decide +kernel
theorem dX3_gather_136 : decode cX3_gather 136 = .ok (.aload_n 2, 1) := by decide +kernel
theorem dX3_gather_137 : decode cX3_gather 137 = .ok (.invokevirtual 66, 3) := by decide +kernel
theorem dX3_gather_140 : decode cX3_gather 140 = .ok (.return_, 1) := by decide +kernel
theorem dX3_addFrame_0 : decode cX3_addFrame 0 = .ok (.aload_n 0, 1) := by decide +kernel
theorem dX3_addFrame_1 : decode cX3_addFrame 1 = .ok (.getfield 9, 3) := by decide +kernel
theorem dX3_addFrame_4 : decode cX3_addFrame 4 = .ok (.bipush 8, 2) := by decide +kernel
theorem dX3_addFrame_6 : decode cX3_addFrame 6 = .ok (.if_icmp .lt 4, 3) := by decide +kernel
theorem dX3_addFrame_9 : decode cX3_addFrame 9 = .ok (.return_, 1) := by decide +kernel
theorem dX3_addFrame_10 : decode cX3_addFrame 10 = .ok (.iconst 1, 1) := by decide +kernel
theorem dX3_addFrame_11 : decode cX3_addFrame 11 = .ok (.iload_n 1, 1) := by decide +kernel
theorem dX3_addFrame_12 : decode cX3_addFrame 12 = .ok (.ishl, 1) := by decide +kernel
theorem dX3_addFrame_13 : decode cX3_addFrame 13 = .ok (.istore_n 2, 1) := by decide +kernel
theorem dX3_addFrame_14 : decode cX3_addFrame 14 = .ok (.iconst 0, 1) := by decide +kernel
theorem dX3_addFrame_15 : decode cX3_addFrame 15 = .ok (.istore_n 3, 1) := by decide +kernel
theorem dX3_addFrame_16 : decode cX3_addFrame 16 = .ok (.iload_n 3, 1) := by decide +kernel
theorem dX3_addFrame_17 : decode cX3_addFrame 17 = .ok (.bipush 16, 2) := by decide +kernel
theorem dX3_addFrame_19 : decode cX3_addFrame 19 = .ok (.if_icmp .ge 45, 3) := by decide +kernel
theorem dX3_addFrame_22 : decode cX3_addFrame 22 = .ok (.iconst 0, 1) := by decide +kernel
theorem dX3_addFrame_23 : decode cX3_addFrame 23 = .ok (.istore 4, 2) := by decide +kernel
theorem dX3_addFrame_25 : decode cX3_addFrame 25 = .ok (.iload 4, 2) := by decide +kernel
theorem dX3_addFrame_27 : decode cX3_addFrame 27 = .ok (.bipush 16, 2) := by decide +kernel
theorem dX3_addFrame_29 : decode cX3_addFrame 29 = .ok (.if_icmp .ge 29, 3) := by decide +kernel
theorem dX3_addFrame_32 : decode cX3_addFrame 32 = .ok (.iload_n 2, 1) := by decide +kernel
theorem dX3_addFrame_33 : decode cX3_addFrame 33 = .ok (.iload 4, 2) := by decide +kernel
theorem dX3_addFrame_35 : decode cX3_addFrame 35 = .ok (.ishr, 1) := by decide +kernel
theorem dX3_addFrame_36 : decode cX3_addFrame 36 = .ok (.iconst 1, 1) := by decide +kernel
theorem dX3_addFrame_37 : decode cX3_addFrame 37 = .ok (.iand, 1) := by decide +kernel
theorem dX3_addFrame_38 : decode cX3_addFrame 38 = .ok (.iconst 1, 1) := by decide +kernel
theorem dX3_addFrame_39 : decode cX3_addFrame 39 = .ok (.if_icmp .ne 13, 3) := by decide +kernel
theorem dX3_addFrame_42 : decode cX3_addFrame 42 = .ok (.iload_n 2, 1) := by decide +kernel
theorem dX3_addFrame_43 : decode cX3_addFrame 43 = .ok (.aload_n 0, 1) := by decide +kernel
theorem dX3_addFrame_44 : decode cX3_addFrame 44 = .ok (.getfield 15, 3) := by decide +kernel
theorem dX3_addFrame_47 : decode cX3_addFrame 47 = .ok (.iload 4, 2) := by decide +kernel
theorem dX3_addFrame_49 : decode cX3_addFrame 49 = .ok (.iaload, 1) := by decide +kernel
theorem dX3_addFrame_50 : decode cX3_addFrame 50 = .ok (.ior, 1) := by decide +kernel
theorem dX3_addFrame_51 : decode cX3_addFrame 51 = .ok (.istore_n 2, 1) := by decide +kernel
theorem dX3_addFrame_52 : decode cX3_addFrame 52 = .ok (.iinc 4 1, 3) := by decide +kernel
theorem dX3_addFrame_55 : decode cX3_addFrame 55 = .ok (.goto (-30), 3) := by decide +kernel
theorem dX3_addFrame_58 : decode cX3_addFrame 58 = .ok (.iinc 3 1, 3) := by decide +kernel
theorem dX3_addFrame_61 : decode cX3_addFrame 61 = .ok (.goto (-45), 3) := by decide +kernel
theorem dX3_addFrame_64 : decode cX3_addFrame 64 = .ok (.iconst 0, 1) := by decide +kernel
theorem dX3_addFrame_65 : decode cX3_addFrame 65 = .ok (.istore_n 3, 1) := by decide +kernel
theorem dX3_addFrame_66 : decode cX3_addFrame 66 = .ok (.iload_n 3, 1) := by decide +kernel
theorem dX3_addFrame_67 : decode cX3_addFrame 67 = .ok (.bipush 16, 2) := by decide +kernel
theorem dX3_addFrame_69 : decode cX3_addFrame 69 = .ok (.if_icmp .ge 28, 3) := by decide +kernel
theorem dX3_addFrame_72 : decode cX3_addFrame 72 = .ok (.iload_n 2, 1) := by decide +kernel
theorem dX3_addFrame_73 : decode cX3_addFrame 73 = .ok (.iload_n 3, 1) := by decide +kernel
theorem dX3_addFrame_74 : decode cX3_addFrame 74 = .ok (.ishr, 1) := by decide +kernel
theorem dX3_addFrame_75 : decode cX3_addFrame 75 = .ok (.iconst 1, 1) := by decide +kernel
theorem dX3_addFrame_76 : decode cX3_addFrame 76 = .ok (.iand, 1) := by decide +kernel
theorem dX3_addFrame_77 : decode cX3_addFrame 77 = .ok (.iconst 1, 1) := by decide +kernel
theorem dX3_addFrame_78 : decode cX3_addFrame 78 = .ok (.if_icmp .ne 13, 3) := by decide +kernel
theorem dX3_addFrame_81 : decode cX3_addFrame 81 = .ok (.aload_n 0, 1) := by decide +kernel
theorem dX3_addFrame_82 : decode cX3_addFrame 82 = .ok (.getfield 19, 3) := by decide +kernel
theorem dX3_addFrame_85 : decode cX3_addFrame 85 = .ok (.iload_n 3, 1) := by decide +kernel
theorem dX3_addFrame_86 : decode cX3_addFrame 86 = .ok (.aload_n 0, 1) := by decide +kernel
theorem dX3_addFrame_87 : decode cX3_addFrame 87 = .ok (.getfield 9, 3) := by decide +kernel
theorem dX3_addFrame_90 : decode cX3_addFrame 90 = .ok (.iastore, 1) := by decide +kernel
theorem dX3_addFrame_91 : decode cX3_addFrame 91 = .ok (.iinc 3 1, 3) := by decide +kernel
theorem dX3_addFrame_94 : decode cX3_addFrame 94 = .ok (.goto (-28), 3) := by decide +kernel
theorem dX3_addFrame_97 : decode cX3_addFrame 97 = .ok (.aload_n 0, 1) := by decide +kernel
theorem dX3_addFrame_98 : decode cX3_addFrame 98 = .ok (.getfield 22, 3) := by decide +kernel
theorem dX3_addFrame_101 : decode cX3_addFrame 101 = .ok (.aload_n 0, 1) := by decide +kernel
theorem dX3_addFrame_102 : decode cX3_addFrame 102 = .ok (.getfield 9, 3) := by decide +kernel
theorem dX3_addFrame_105 : decode cX3_addFrame 105 = .ok (.iload_n 2, 1) := by decide +kernel
theorem dX3_addFrame_106 : decode cX3_addFrame 106 = .ok (.iastore, 1) := by decide +kernel
theorem dX3_addFrame_107 : decode cX3_addFrame 107 = .ok (.aload_n 0, 1) := by decide +kernel
theorem dX3_addFrame_108 : decode cX3_addFrame 108 = .ok (.dup, 1) := by decide +kernel
theorem dX3_addFrame_109 : decode cX3_addFrame 109 = .ok (.getfield 9, 3) := by decide +kernel
theorem dX3_addFrame_112 : decode cX3_addFrame 112 = .ok (.iconst 1, 1) := by decide +kernel
theorem dX3_addFrame_113 : decode cX3_addFrame 113 = .ok (.iadd, 1) := by decide +kernel
theorem dX3_addFrame_114 : decode cX3_addFrame 114 = .ok (.putfield 9, 3) := by decide +kernel
theorem dX3_addFrame_117 : decode cX3_addFrame 117 = .ok (.return_, 1) := by decide +kernel
theorem dX3_countPairs_0 : decode cX3_countPairs 0 = .ok (.iconst 0, 1) := by decide +kernel
theorem dX3_countPairs_1 : decode cX3_countPairs 1 = .ok (.istore_n 3, 1) := by decide +kernel
theorem dX3_countPairs_2 : decode cX3_countPairs 2 = .ok (.iload_n 3, 1) := by decide +kernel
theorem dX3_countPairs_3 : decode cX3_countPairs 3 = .ok (.bipush 48, 2) := by decide +kernel
theorem dX3_countPairs_5 : decode cX3_countPairs 5 = .ok (.if_icmp .ge 60, 3) := by decide +kernel
theorem dX3_countPairs_8 : decode cX3_countPairs 8 = .ok (.aload_n 0, 1) := by decide +kernel
theorem dX3_countPairs_9 : decode cX3_countPairs 9 = .ok (.aload_n 2, 1) := by decide +kernel
theorem dX3_countPairs_10 : decode cX3_countPairs 10 = .ok (.iload_n 3, 1) := by decide +kernel
theorem dX3_countPairs_11 : decode cX3_countPairs 11 = .ok (.invokevirtual 47, 3) := by decide +kernel
theorem dX3_countPairs_14 : decode cX3_countPairs 14 = .ok (.invokevirtual 70, 3) := by decide +kernel
theorem dX3_countPairs_17 : decode cX3_countPairs 17 = .ok (.istore 4, 2) := by decide +kernel
theorem dX3_countPairs_19 : decode cX3_countPairs 19 = .ok (.aload_n 1, 1) := by decide +kernel
theorem dX3_countPairs_20 : decode cX3_countPairs 20 = .ok (.iload_n 3, 1) := by decide +kernel
theorem dX3_countPairs_21 : decode cX3_countPairs 21 = .ok (.invokevirtual 53, 3) := by decide +kernel
theorem dX3_countPairs_24 : decode cX3_countPairs 24 = .ok (.iconst (-1), 1) := by decide +kernel
theorem dX3_countPairs_25 : decode cX3_countPairs 25 = .ok (.if_icmp .eq 34, 3) := by decide +kernel
theorem dX3_countPairs_28 : decode cX3_countPairs 28 = .ok (.aload_n 2, 1) := by decide +kernel
theorem dX3_countPairs_29 : decode cX3_countPairs 29 = .ok (.iload_n 3, 1) := by decide +kernel
theorem dX3_countPairs_30 : decode cX3_countPairs 30 = .ok (.invokevirtual 73, 3) := by decide +kernel
theorem dX3_countPairs_33 : decode cX3_countPairs 33 = .ok (.ifCond .ne 26, 3) := by decide +kernel
theorem dX3_countPairs_36 : decode cX3_countPairs 36 = .ok (.iload 4, 2) := by decide +kernel
theorem dX3_countPairs_38 : decode cX3_countPairs 38 = .ok (.ifCond .lt 21, 3) := by decide +kernel
theorem dX3_countPairs_41 : decode cX3_countPairs 41 = .ok (.iload 4, 2) := by decide +kernel
theorem dX3_countPairs_43 : decode cX3_countPairs 43 = .ok (.bipush 8, 2) := by decide +kernel
theorem dX3_countPairs_45 : decode cX3_countPairs 45 = .ok (.if_icmp .ge 14, 3) := by decide +kernel
theorem dX3_countPairs_48 : decode cX3_countPairs 48 = .ok (.aload_n 0, 1) := by decide +kernel
theorem dX3_countPairs_49 : decode cX3_countPairs 49 = .ok (.getfield 25, 3) := by decide +kernel
theorem dX3_countPairs_52 : decode cX3_countPairs 52 = .ok (.iload 4, 2) := by decide +kernel
theorem dX3_countPairs_54 : decode cX3_countPairs 54 = .ok (.dup2, 1) := by decide +kernel
theorem dX3_countPairs_55 : decode cX3_countPairs 55 = .ok (.iaload, 1) := by decide +kernel
theorem dX3_countPairs_56 : decode cX3_countPairs 56 = .ok (.iconst 1, 1) := by decide +kernel
theorem dX3_countPairs_57 : decode cX3_countPairs 57 = .ok (.iadd, 1) := by decide +kernel
theorem dX3_countPairs_58 : decode cX3_countPairs 58 = .ok (.iastore, 1) := by decide +kernel
theorem dX3_countPairs_59 : decode cX3_countPairs 59 = .ok (.iinc 3 1, 3) := by decide +kernel
theorem dX3_countPairs_62 : decode cX3_countPairs 62 = .ok (.goto (-60), 3) := by decide +kernel
theorem dX3_countPairs_65 : decode cX3_countPairs 65 = .ok (.return_, 1) := by decide +kernel
theorem dX3_isMember_0 : decode cX3_isMember 0 = .ok (.iload_n 0, 1) := by decide +kernel
theorem dX3_isMember_1 : decode cX3_isMember 1 = .ok (.ifCond .lt 13, 3) := by decide +kernel
theorem dX3_isMember_4 : decode cX3_isMember 4 = .ok (.iload_n 0, 1) := by decide +kernel
theorem dX3_isMember_5 : decode cX3_isMember 5 = .ok (.bipush 16, 2) := by decide +kernel
theorem dX3_isMember_7 : decode cX3_isMember 7 = .ok (.if_icmp .ge 7, 3) := by decide +kernel
theorem dX3_isMember_10 : decode cX3_isMember 10 = .ok (.iconst 1, 1) := by decide +kernel
theorem dX3_isMember_11 : decode cX3_isMember 11 = .ok (.goto 4, 3) := by decide +kernel
theorem dX3_isMember_14 : decode cX3_isMember 14 = .ok (.iconst 0, 1) := by decide +kernel
theorem dX3_isMember_15 : decode cX3_isMember 15 = .ok (.ireturn, 1) := by decide +kernel
theorem dX3_size_0 : decode cX3_size 0 = .ok (.aload_n 0, 1) := by decide +kernel
theorem dX3_size_1 : decode cX3_size 1 = .ok (.getfield 9, 3) := by decide +kernel
theorem dX3_size_4 : decode cX3_size 4 = .ok (.ireturn, 1) := by decide +kernel
theorem dX3_holding_0 : decode cX3_holding 0 = .ok (.aload_n 0, 1) := by decide +kernel
theorem dX3_holding_1 : decode cX3_holding 1 = .ok (.getfield 19, 3) := by decide +kernel
theorem dX3_holding_4 : decode cX3_holding 4 = .ok (.iload_n 1, 1) := by decide +kernel
theorem dX3_holding_5 : decode cX3_holding 5 = .ok (.invokestatic 76, 3) := by decide +kernel
theorem dX3_holding_8 : decode cX3_holding 8 = .ok (.ireturn, 1) := by decide +kernel
theorem dX3_membersOf_0 : decode cX3_membersOf 0 = .ok (.aload_n 0, 1) := by decide +kernel
theorem dX3_membersOf_1 : decode cX3_membersOf 1 = .ok (.getfield 22, 3) := by decide +kernel
theorem dX3_membersOf_4 : decode cX3_membersOf 4 = .ok (.iload_n 1, 1) := by decide +kernel
theorem dX3_membersOf_5 : decode cX3_membersOf 5 = .ok (.invokestatic 76, 3) := by decide +kernel
theorem dX3_membersOf_8 : decode cX3_membersOf 8 = .ok (.ireturn, 1) := by decide +kernel
theorem dX3_matesOf_0 : decode cX3_matesOf 0 = .ok (.iload_n 1, 1) := by decide +kernel
theorem dX3_matesOf_1 : decode cX3_matesOf 1 = .ok (.invokestatic 58, 3) := by decide +kernel
theorem dX3_matesOf_4 : decode cX3_matesOf 4 = .ok (.ifCond .eq 12, 3) := by decide +kernel
theorem dX3_matesOf_7 : decode cX3_matesOf 7 = .ok (.aload_n 0, 1) := by decide +kernel
theorem dX3_matesOf_8 : decode cX3_matesOf 8 = .ok (.getfield 15, 3) := by decide +kernel
theorem dX3_matesOf_11 : decode cX3_matesOf 11 = .ok (.iload_n 1, 1) := by decide +kernel
theorem dX3_matesOf_12 : decode cX3_matesOf 12 = .ok (.iaload, 1) := by decide +kernel
theorem dX3_matesOf_13 : decode cX3_matesOf 13 = .ok (.goto 4, 3) := by decide +kernel
theorem dX3_matesOf_16 : decode cX3_matesOf 16 = .ok (.iconst 0, 1) := by decide +kernel
theorem dX3_matesOf_17 : decode cX3_matesOf 17 = .ok (.ireturn, 1) := by decide +kernel
theorem dX3_pairsOf_0 : decode cX3_pairsOf 0 = .ok (.aload_n 0, 1) := by decide +kernel
theorem dX3_pairsOf_1 : decode cX3_pairsOf 1 = .ok (.getfield 25, 3) := by decide +kernel
theorem dX3_pairsOf_4 : decode cX3_pairsOf 4 = .ok (.iload_n 1, 1) := by decide +kernel
theorem dX3_pairsOf_5 : decode cX3_pairsOf 5 = .ok (.invokestatic 76, 3) := by decide +kernel
theorem dX3_pairsOf_8 : decode cX3_pairsOf 8 = .ok (.ireturn, 1) := by decide +kernel
theorem dX3_isRaised_0 : decode cX3_isRaised 0 = .ok (.iload_n 1, 1) := by decide +kernel
theorem dX3_isRaised_1 : decode cX3_isRaised 1 = .ok (.ifCond .lt 25, 3) := by decide +kernel
theorem dX3_isRaised_4 : decode cX3_isRaised 4 = .ok (.iload_n 1, 1) := by decide +kernel
theorem dX3_isRaised_5 : decode cX3_isRaised 5 = .ok (.bipush 8, 2) := by decide +kernel
theorem dX3_isRaised_7 : decode cX3_isRaised 7 = .ok (.if_icmp .ge 19, 3) := by decide +kernel
theorem dX3_isRaised_10 : decode cX3_isRaised 10 = .ok (.aload_n 0, 1) := by decide +kernel
theorem dX3_isRaised_11 : decode cX3_isRaised 11 = .ok (.getfield 28, 3) := by decide +kernel
theorem dX3_isRaised_14 : decode cX3_isRaised 14 = .ok (.iload_n 1, 1) := by decide +kernel
theorem dX3_isRaised_15 : decode cX3_isRaised 15 = .ok (.ishr, 1) := by decide +kernel
theorem dX3_isRaised_16 : decode cX3_isRaised 16 = .ok (.iconst 1, 1) := by decide +kernel
theorem dX3_isRaised_17 : decode cX3_isRaised 17 = .ok (.iand, 1) := by decide +kernel
theorem dX3_isRaised_18 : decode cX3_isRaised 18 = .ok (.iconst 1, 1) := by decide +kernel
theorem dX3_isRaised_19 : decode cX3_isRaised 19 = .ok (.if_icmp .ne 7, 3) := by decide +kernel
theorem dX3_isRaised_22 : decode cX3_isRaised 22 = .ok (.iconst 1, 1) := by decide +kernel
theorem dX3_isRaised_23 : decode cX3_isRaised 23 = .ok (.goto 4, 3) := by decide +kernel
theorem dX3_isRaised_26 : decode cX3_isRaised 26 = .ok (.iconst 0, 1) := by decide +kernel
theorem dX3_isRaised_27 : decode cX3_isRaised 27 = .ok (.ireturn, 1) := by decide +kernel
theorem dX3_keepRaising_0 : decode cX3_keepRaising 0 = .ok (.iload_n 1, 1) := by decide +kernel
theorem dX3_keepRaising_1 : decode cX3_keepRaising 1 = .ok (.ifCond .lt 64, 3) := by decide +kernel
theorem dX3_keepRaising_4 : decode cX3_keepRaising 4 = .ok (.iload_n 1, 1) := by decide +kernel
theorem dX3_keepRaising_5 : decode cX3_keepRaising 5 = .ok (.bipush 8, 2) := by decide +kernel
theorem dX3_keepRaising_7 : decode cX3_keepRaising 7 = .ok (.if_icmp .ge 58, 3) := by decide +kernel
theorem dX3_keepRaising_10 : decode cX3_keepRaising 10 = .ok (.aload_n 0, 1) := by decide +kernel
theorem dX3_keepRaising_11 : decode cX3_keepRaising 11 = .ok (.dup, 1) := by decide +kernel
theorem dX3_keepRaising_12 : decode cX3_keepRaising 12 = .ok (.getfield 28, 3) := by decide +kernel
theorem dX3_keepRaising_15 : decode cX3_keepRaising 15 = .ok (.iconst 1, 1) := by decide +kernel
theorem dX3_keepRaising_16 : decode cX3_keepRaising 16 = .ok (.iload_n 1, 1) := by decide +kernel
theorem dX3_keepRaising_17 : decode cX3_keepRaising 17 = .ok (.ishl, 1) := by decide +kernel
theorem dX3_keepRaising_18 : decode cX3_keepRaising 18 = .ok (.ior, 1) := by decide +kernel
theorem dX3_keepRaising_19 : decode cX3_keepRaising 19 = .ok (.putfield 28, 3) := by decide +kernel
theorem dX3_keepRaising_22 : decode cX3_keepRaising 22 = .ok (.aload_n 0, 1) := by decide +kernel
theorem dX3_keepRaising_23 : decode cX3_keepRaising 23 = .ok (.getfield 31, 3) := by decide +kernel
theorem dX3_keepRaising_26 : decode cX3_keepRaising 26 = .ok (.iload_n 1, 1) := by decide +kernel
theorem dX3_keepRaising_27 : decode cX3_keepRaising 27 = .ok (.iload_n 2, 1) := by decide +kernel
theorem dX3_keepRaising_28 : decode cX3_keepRaising 28 = .ok (.iastore, 1) := by decide +kernel
theorem dX3_keepRaising_29 : decode cX3_keepRaising 29 = .ok (.aload_n 0, 1) := by decide +kernel
theorem dX3_keepRaising_30 : decode cX3_keepRaising 30 = .ok (.getfield 34, 3) := by decide +kernel
theorem dX3_keepRaising_33 : decode cX3_keepRaising 33 = .ok (.iload_n 1, 1) := by decide +kernel
theorem dX3_keepRaising_34 : decode cX3_keepRaising 34 = .ok (.lload_n 3, 1) := by decide +kernel
theorem dX3_keepRaising_35 : decode cX3_keepRaising 35 = .ok (.lastore, 1) := by decide +kernel
theorem dX3_keepRaising_36 : decode cX3_keepRaising 36 = .ok (.iconst 0, 1) := by decide +kernel
theorem dX3_keepRaising_37 : decode cX3_keepRaising 37 = .ok (.istore 5, 2) := by decide +kernel
theorem dX3_keepRaising_39 : decode cX3_keepRaising 39 = .ok (.iload 5, 2) := by decide +kernel
theorem dX3_keepRaising_41 : decode cX3_keepRaising 41 = .ok (.bipush 16, 2) := by decide +kernel
theorem dX3_keepRaising_43 : decode cX3_keepRaising 43 = .ok (.if_icmp .ge 22, 3) := by decide +kernel
theorem dX3_keepRaising_46 : decode cX3_keepRaising 46 = .ok (.aload_n 0, 1) := by decide +kernel
theorem dX3_keepRaising_47 : decode cX3_keepRaising 47 = .ok (.getfield 38, 3) := by decide +kernel
theorem dX3_keepRaising_50 : decode cX3_keepRaising 50 = .ok (.iload_n 1, 1) := by decide +kernel
theorem dX3_keepRaising_51 : decode cX3_keepRaising 51 = .ok (.bipush 16, 2) := by decide +kernel
theorem dX3_keepRaising_53 : decode cX3_keepRaising 53 = .ok (.imul, 1) := by decide +kernel
theorem dX3_keepRaising_54 : decode cX3_keepRaising 54 = .ok (.iload 5, 2) := by decide +kernel
theorem dX3_keepRaising_56 : decode cX3_keepRaising 56 = .ok (.iadd, 1) := by decide +kernel
theorem dX3_keepRaising_57 : decode cX3_keepRaising 57 = .ok (.iconst (-1), 1) := by decide +kernel
theorem dX3_keepRaising_58 : decode cX3_keepRaising 58 = .ok (.iastore, 1) := by decide +kernel
theorem dX3_keepRaising_59 : decode cX3_keepRaising 59 = .ok (.iinc 5 1, 3) := by decide +kernel
theorem dX3_keepRaising_62 : decode cX3_keepRaising 62 = .ok (.goto (-23), 3) := by decide +kernel
theorem dX3_keepRaising_65 : decode cX3_keepRaising 65 = .ok (.return_, 1) := by decide +kernel
theorem dX3_keepStep_0 : decode cX3_keepStep 0 = .ok (.iload_n 1, 1) := by decide +kernel
theorem dX3_keepStep_1 : decode cX3_keepStep 1 = .ok (.ifCond .lt 28, 3) := by decide +kernel
theorem dX3_keepStep_4 : decode cX3_keepStep 4 = .ok (.iload_n 1, 1) := by decide +kernel
theorem dX3_keepStep_5 : decode cX3_keepStep 5 = .ok (.bipush 8, 2) := by decide +kernel
theorem dX3_keepStep_7 : decode cX3_keepStep 7 = .ok (.if_icmp .ge 22, 3) := by decide +kernel
theorem dX3_keepStep_10 : decode cX3_keepStep 10 = .ok (.iload_n 2, 1) := by decide +kernel
theorem dX3_keepStep_11 : decode cX3_keepStep 11 = .ok (.invokestatic 58, 3) := by decide +kernel
theorem dX3_keepStep_14 : decode cX3_keepStep 14 = .ok (.ifCond .eq 15, 3) := by decide +kernel
theorem dX3_keepStep_17 : decode cX3_keepStep 17 = .ok (.aload_n 0, 1) := by decide +kernel
theorem dX3_keepStep_18 : decode cX3_keepStep 18 = .ok (.getfield 38, 3) := by decide +kernel
theorem dX3_keepStep_21 : decode cX3_keepStep 21 = .ok (.iload_n 1, 1) := by decide +kernel
theorem dX3_keepStep_22 : decode cX3_keepStep 22 = .ok (.bipush 16, 2) := by decide +kernel
theorem dX3_keepStep_24 : decode cX3_keepStep 24 = .ok (.imul, 1) := by decide +kernel
theorem dX3_keepStep_25 : decode cX3_keepStep 25 = .ok (.iload_n 2, 1) := by decide +kernel
theorem dX3_keepStep_26 : decode cX3_keepStep 26 = .ok (.iadd, 1) := by decide +kernel
theorem dX3_keepStep_27 : decode cX3_keepStep 27 = .ok (.iload_n 3, 1) := by decide +kernel
theorem dX3_keepStep_28 : decode cX3_keepStep 28 = .ok (.iastore, 1) := by decide +kernel
theorem dX3_keepStep_29 : decode cX3_keepStep 29 = .ok (.return_, 1) := by decide +kernel
theorem dX3_mostOf_0 : decode cX3_mostOf 0 = .ok (.aload_n 0, 1) := by decide +kernel
theorem dX3_mostOf_1 : decode cX3_mostOf 1 = .ok (.getfield 31, 3) := by decide +kernel
theorem dX3_mostOf_4 : decode cX3_mostOf 4 = .ok (.iload_n 1, 1) := by decide +kernel
theorem dX3_mostOf_5 : decode cX3_mostOf 5 = .ok (.invokestatic 76, 3) := by decide +kernel
theorem dX3_mostOf_8 : decode cX3_mostOf 8 = .ok (.ireturn, 1) := by decide +kernel
theorem dX3_ordersOf_0 : decode cX3_ordersOf 0 = .ok (.iload_n 1, 1) := by decide +kernel
theorem dX3_ordersOf_1 : decode cX3_ordersOf 1 = .ok (.ifCond .lt 18, 3) := by decide +kernel
theorem dX3_ordersOf_4 : decode cX3_ordersOf 4 = .ok (.iload_n 1, 1) := by decide +kernel
theorem dX3_ordersOf_5 : decode cX3_ordersOf 5 = .ok (.bipush 8, 2) := by decide +kernel
theorem dX3_ordersOf_7 : decode cX3_ordersOf 7 = .ok (.if_icmp .ge 12, 3) := by decide +kernel
theorem dX3_ordersOf_10 : decode cX3_ordersOf 10 = .ok (.aload_n 0, 1) := by decide +kernel
theorem dX3_ordersOf_11 : decode cX3_ordersOf 11 = .ok (.getfield 34, 3) := by decide +kernel
theorem dX3_ordersOf_14 : decode cX3_ordersOf 14 = .ok (.iload_n 1, 1) := by decide +kernel
theorem dX3_ordersOf_15 : decode cX3_ordersOf 15 = .ok (.laload, 1) := by decide +kernel
theorem dX3_ordersOf_16 : decode cX3_ordersOf 16 = .ok (.goto 6, 3) := by decide +kernel
theorem dX3_ordersOf_19 : decode cX3_ordersOf 19 = .ok (.ldc2_w 80, 3) := by decide +kernel
theorem dX3_ordersOf_22 : decode cX3_ordersOf 22 = .ok (.lreturn, 1) := by decide +kernel
theorem dX3_stepOf_0 : decode cX3_stepOf 0 = .ok (.iload_n 2, 1) := by decide +kernel
theorem dX3_stepOf_1 : decode cX3_stepOf 1 = .ok (.invokestatic 58, 3) := by decide +kernel
theorem dX3_stepOf_4 : decode cX3_stepOf 4 = .ok (.ifCond .eq 19, 3) := by decide +kernel
theorem dX3_stepOf_7 : decode cX3_stepOf 7 = .ok (.aload_n 0, 1) := by decide +kernel
theorem dX3_stepOf_8 : decode cX3_stepOf 8 = .ok (.getfield 38, 3) := by decide +kernel
theorem dX3_stepOf_11 : decode cX3_stepOf 11 = .ok (.iload_n 1, 1) := by decide +kernel
theorem dX3_stepOf_12 : decode cX3_stepOf 12 = .ok (.bipush 16, 2) := by decide +kernel
theorem dX3_stepOf_14 : decode cX3_stepOf 14 = .ok (.imul, 1) := by decide +kernel
theorem dX3_stepOf_15 : decode cX3_stepOf 15 = .ok (.iload_n 2, 1) := by decide +kernel
theorem dX3_stepOf_16 : decode cX3_stepOf 16 = .ok (.iadd, 1) := by decide +kernel
theorem dX3_stepOf_17 : decode cX3_stepOf 17 = .ok (.invokestatic 76, 3) := by decide +kernel
theorem dX3_stepOf_20 : decode cX3_stepOf 20 = .ok (.goto 4, 3) := by decide +kernel
theorem dX3_stepOf_23 : decode cX3_stepOf 23 = .ok (.iconst (-1), 1) := by decide +kernel
theorem dX3_stepOf_24 : decode cX3_stepOf 24 = .ok (.ireturn, 1) := by decide +kernel
theorem dX4_init_0 : decode cX4_init 0 = .ok (.aload_n 0, 1) := by decide +kernel
theorem dX4_init_1 : decode cX4_init 1 = .ok (.invokespecial 3, 3) := by decide +kernel
theorem dX4_init_4 : decode cX4_init 4 = .ok (.aload_n 0, 1) := by decide +kernel
theorem dX4_init_5 : decode cX4_init 5 = .ok (.bipush 48, 2) := by decide +kernel
theorem dX4_init_7 : decode cX4_init 7 = .ok (.newarray .long, 2) := by decide +kernel
theorem dX4_init_9 : decode cX4_init 9 = .ok (.putfield 9, 3) := by decide +kernel
theorem dX4_init_12 : decode cX4_init 12 = .ok (.aload_n 0, 1) := by decide +kernel
theorem dX4_init_13 : decode cX4_init 13 = .ok (.sipush 576, 3) := by decide +kernel
theorem dX4_init_16 : decode cX4_init 16 = .ok (.newarray .int, 2) := by decide +kernel
theorem dX4_init_18 : decode cX4_init 18 = .ok (.putfield 15, 3) := by decide +kernel
theorem dX4_init_21 : decode cX4_init 21 = .ok (.aload_n 0, 1) := by decide +kernel
theorem dX4_init_22 : decode cX4_init 22 = .ok (.sipush 576, 3) := by decide +kernel
theorem dX4_init_25 : decode cX4_init 25 = .ok (.newarray .int, 2) := by decide +kernel
theorem dX4_init_27 : decode cX4_init 27 = .ok (.putfield 19, 3) := by decide +kernel
theorem dX4_init_30 : decode cX4_init 30 = .ok (.aload_n 0, 1) := by decide +kernel
theorem dX4_init_31 : decode cX4_init 31 = .ok (.sipush 576, 3) := by decide +kernel
theorem dX4_init_34 : decode cX4_init 34 = .ok (.newarray .int, 2) := by decide +kernel
theorem dX4_init_36 : decode cX4_init 36 = .ok (.putfield 22, 3) := by decide +kernel
theorem dX4_init_39 : decode cX4_init 39 = .ok (.aload_n 0, 1) := by decide +kernel
theorem dX4_init_40 : decode cX4_init 40 = .ok (.iconst 0, 1) := by decide +kernel
theorem dX4_init_41 : decode cX4_init 41 = .ok (.putfield 25, 3) := by decide +kernel
theorem dX4_init_44 : decode cX4_init 44 = .ok (.aload_n 0, 1) := by decide +kernel
theorem dX4_init_45 : decode cX4_init 45 = .ok (.lconst 0, 1) := by decide +kernel
theorem dX4_init_46 : decode cX4_init 46 = .ok (.putfield 29, 3) := by decide +kernel
theorem dX4_init_49 : decode cX4_init 49 = .ok (.aload_n 0, 1) := by decide +kernel
theorem dX4_init_50 : decode cX4_init 50 = .ok (.lconst 0, 1) := by decide +kernel
theorem dX4_init_51 : decode cX4_init 51 = .ok (.putfield 33, 3) := by decide +kernel
theorem dX4_init_54 : decode cX4_init 54 = .ok (.aload_n 0, 1) := by decide +kernel
theorem dX4_init_55 : decode cX4_init 55 = .ok (.lconst 0, 1) := by decide +kernel
theorem dX4_init_56 : decode cX4_init 56 = .ok (.putfield 36, 3) := by decide +kernel
theorem dX4_init_59 : decode cX4_init 59 = .ok (.aload_n 0, 1) := by decide +kernel
theorem dX4_init_60 : decode cX4_init 60 = .ok (.lconst 0, 1) := by decide +kernel
theorem dX4_init_61 : decode cX4_init 61 = .ok (.putfield 39, 3) := by decide +kernel
theorem dX4_init_64 : decode cX4_init 64 = .ok (.aload_n 0, 1) := by decide +kernel
theorem dX4_init_65 : decode cX4_init 65 = .ok (.bipush 48, 2) := by decide +kernel
theorem dX4_init_67 : decode cX4_init 67 = .ok (.newarray .int, 2) := by decide +kernel
theorem dX4_init_69 : decode cX4_init 69 = .ok (.putfield 42, 3) := by decide +kernel
theorem dX4_init_72 : decode cX4_init 72 = .ok (.aload_n 0, 1) := by decide +kernel
theorem dX4_init_73 : decode cX4_init 73 = .ok (.bipush 50, 2) := by decide +kernel
theorem dX4_init_75 : decode cX4_init 75 = .ok (.newarray .int, 2) := by decide +kernel
theorem dX4_init_77 : decode cX4_init 77 = .ok (.putfield 45, 3) := by decide +kernel
theorem dX4_init_80 : decode cX4_init 80 = .ok (.aload_n 0, 1) := by decide +kernel
theorem dX4_init_81 : decode cX4_init 81 = .ok (.bipush 50, 2) := by decide +kernel
theorem dX4_init_83 : decode cX4_init 83 = .ok (.newarray .int, 2) := by decide +kernel
theorem dX4_init_85 : decode cX4_init 85 = .ok (.putfield 48, 3) := by decide +kernel
theorem dX4_init_88 : decode cX4_init 88 = .ok (.aload_n 0, 1) := by decide +kernel
theorem dX4_init_89 : decode cX4_init 89 = .ok (.iconst 0, 1) := by decide +kernel
theorem dX4_init_90 : decode cX4_init 90 = .ok (.putfield 51, 3) := by decide +kernel
theorem dX4_init_93 : decode cX4_init 93 = .ok (.aload_n 0, 1) := by decide +kernel
theorem dX4_init_94 : decode cX4_init 94 = .ok (.iconst 0, 1) := by decide +kernel
theorem dX4_init_95 : decode cX4_init 95 = .ok (.putfield 54, 3) := by decide +kernel
theorem dX4_init_98 : decode cX4_init 98 = .ok (.aload_n 0, 1) := by decide +kernel
theorem dX4_init_99 : decode cX4_init 99 = .ok (.getfield 42, 3) := by decide +kernel
theorem dX4_init_102 : decode cX4_init 102 = .ok (.iconst (-1), 1) := by decide +kernel
theorem dX4_init_103 : decode cX4_init 103 = .ok (.invokestatic 57, 3) := by decide +kernel
theorem dX4_init_106 : decode cX4_init 106 = .ok (.return_, 1) := by decide +kernel
theorem dX4_begin_0 : decode cX4_begin 0 = .ok (.aload_n 0, 1) := by decide +kernel
theorem dX4_begin_1 : decode cX4_begin 1 = .ok (.getfield 42, 3) := by decide +kernel
theorem dX4_begin_4 : decode cX4_begin 4 = .ok (.iconst (-1), 1) := by decide +kernel
theorem dX4_begin_5 : decode cX4_begin 5 = .ok (.invokestatic 57, 3) := by decide +kernel
theorem dX4_begin_8 : decode cX4_begin 8 = .ok (.aload_n 0, 1) := by decide +kernel
theorem dX4_begin_9 : decode cX4_begin 9 = .ok (.iconst 0, 1) := by decide +kernel
theorem dX4_begin_10 : decode cX4_begin 10 = .ok (.putfield 25, 3) := by decide +kernel
theorem dX4_begin_13 : decode cX4_begin 13 = .ok (.aload_n 0, 1) := by decide +kernel
theorem dX4_begin_14 : decode cX4_begin 14 = .ok (.lconst 0, 1) := by decide +kernel
theorem dX4_begin_15 : decode cX4_begin 15 = .ok (.putfield 29, 3) := by decide +kernel
theorem dX4_begin_18 : decode cX4_begin 18 = .ok (.aload_n 0, 1) := by decide +kernel
theorem dX4_begin_19 : decode cX4_begin 19 = .ok (.lconst 0, 1) := by decide +kernel
theorem dX4_begin_20 : decode cX4_begin 20 = .ok (.putfield 33, 3) := by decide +kernel
theorem dX4_begin_23 : decode cX4_begin 23 = .ok (.aload_n 0, 1) := by decide +kernel
theorem dX4_begin_24 : decode cX4_begin 24 = .ok (.lconst 0, 1) := by decide +kernel
theorem dX4_begin_25 : decode cX4_begin 25 = .ok (.putfield 36, 3) := by decide +kernel
theorem dX4_begin_28 : decode cX4_begin 28 = .ok (.aload_n 0, 1) := by decide +kernel
theorem dX4_begin_29 : decode cX4_begin 29 = .ok (.lconst 0, 1) := by decide +kernel
theorem dX4_begin_30 : decode cX4_begin 30 = .ok (.putfield 39, 3) := by decide +kernel
theorem dX4_begin_33 : decode cX4_begin 33 = .ok (.aload_n 0, 1) := by decide +kernel
theorem dX4_begin_34 : decode cX4_begin 34 = .ok (.iconst 0, 1) := by decide +kernel
theorem dX4_begin_35 : decode cX4_begin 35 = .ok (.putfield 51, 3) := by decide +kernel
theorem dX4_begin_38 : decode cX4_begin 38 = .ok (.aload_n 0, 1) := by decide +kernel
theorem dX4_begin_39 : decode cX4_begin 39 = .ok (.iconst 0, 1) := by decide +kernel
theorem dX4_begin_40 : decode cX4_begin 40 = .ok (.putfield 54, 3) := by decide +kernel
theorem dX4_begin_43 : decode cX4_begin 43 = .ok (.return_, 1) := by decide +kernel
theorem dX4_keepNumbers_0 : decode cX4_keepNumbers 0 = .ok (.iload_n 1, 1) := by decide +kernel
theorem dX4_keepNumbers_1 : decode cX4_keepNumbers 1 = .ok (.ifCond .lt 16, 3) := by decide +kernel
theorem dX4_keepNumbers_4 : decode cX4_keepNumbers 4 = .ok (.iload_n 1, 1) := by decide +kernel
theorem dX4_keepNumbers_5 : decode cX4_keepNumbers 5 = .ok (.bipush 48, 2) := by decide +kernel
theorem dX4_keepNumbers_7 : decode cX4_keepNumbers 7 = .ok (.if_icmp .ge 10, 3) := by decide +kernel
theorem dX4_keepNumbers_10 : decode cX4_keepNumbers 10 = .ok (.aload_n 0, 1) := by decide +kernel
theorem dX4_keepNumbers_11 : decode cX4_keepNumbers 11 = .ok (.getfield 9, 3) := by decide +kernel
theorem dX4_keepNumbers_14 : decode cX4_keepNumbers 14 = .ok (.iload_n 1, 1) := by decide +kernel
theorem dX4_keepNumbers_15 : decode cX4_keepNumbers 15 = .ok (.lload_n 2, 1) := by decide +kernel
theorem dX4_keepNumbers_16 : decode cX4_keepNumbers 16 = .ok (.lastore, 1) := by decide +kernel
theorem dX4_keepNumbers_17 : decode cX4_keepNumbers 17 = .ok (.return_, 1) := by decide +kernel
theorem dX4_shareNumber_0 : decode cX4_shareNumber 0 = .ok (.iload_n 1, 1) := by decide +kernel
theorem dX4_shareNumber_1 : decode cX4_shareNumber 1 = .ok (.ifCond .lt 41, 3) := by decide +kernel
theorem dX4_shareNumber_4 : decode cX4_shareNumber 4 = .ok (.iload_n 1, 1) := by decide +kernel
theorem dX4_shareNumber_5 : decode cX4_shareNumber 5 = .ok (.bipush 48, 2) := by decide +kernel
theorem dX4_shareNumber_7 : decode cX4_shareNumber 7 = .ok (.if_icmp .ge 35, 3) := by decide +kernel
theorem dX4_shareNumber_10 : decode cX4_shareNumber 10 = .ok (.iload_n 2, 1) := by decide +kernel
theorem dX4_shareNumber_11 : decode cX4_shareNumber 11 = .ok (.ifCond .lt 31, 3) := by decide +kernel
theorem dX4_shareNumber_14 : decode cX4_shareNumber 14 = .ok (.iload_n 2, 1) := by decide +kernel
theorem dX4_shareNumber_15 : decode cX4_shareNumber 15 = .ok (.bipush 48, 2) := by decide +kernel
theorem dX4_shareNumber_17 : decode cX4_shareNumber 17 = .ok (.if_icmp .ge 25, 3) := by decide +kernel
theorem dX4_shareNumber_20 : decode cX4_shareNumber 20 = .ok (.aload_n 0, 1) := by decide +kernel
theorem dX4_shareNumber_21 : decode cX4_shareNumber 21 = .ok (.getfield 9, 3) := by decide +kernel
theorem dX4_shareNumber_24 : decode cX4_shareNumber 24 = .ok (.iload_n 1, 1) := by decide +kernel
theorem dX4_shareNumber_25 : decode cX4_shareNumber 25 = .ok (.laload, 1) := by decide +kernel
theorem dX4_shareNumber_26 : decode cX4_shareNumber 26 = .ok (.aload_n 0, 1) := by decide +kernel
theorem dX4_shareNumber_27 : decode cX4_shareNumber 27 = .ok (.getfield 9, 3) := by decide +kernel
theorem dX4_shareNumber_30 : decode cX4_shareNumber 30 = .ok (.iload_n 2, 1) := by decide +kernel
theorem dX4_shareNumber_31 : decode cX4_shareNumber 31 = .ok (.laload, 1) := by decide +kernel
theorem dX4_shareNumber_32 : decode cX4_shareNumber 32 = .ok (.land, 1) := by decide +kernel
theorem dX4_shareNumber_33 : decode cX4_shareNumber 33 = .ok (.lconst 0, 1) := by decide +kernel
theorem dX4_shareNumber_34 : decode cX4_shareNumber 34 = .ok (.lcmp, 1) := by decide +kernel
theorem dX4_shareNumber_35 : decode cX4_shareNumber 35 = .ok (.ifCond .eq 7, 3) := by decide +kernel
theorem dX4_shareNumber_38 : decode cX4_shareNumber 38 = .ok (.iconst 1, 1) := by decide +kernel
theorem dX4_shareNumber_39 : decode cX4_shareNumber 39 = .ok (.goto 4, 3) := by decide +kernel
theorem dX4_shareNumber_42 : decode cX4_shareNumber 42 = .ok (.iconst 0, 1) := by decide +kernel
theorem dX4_shareNumber_43 : decode cX4_shareNumber 43 = .ok (.ireturn, 1) := by decide +kernel
theorem dX4_addArc_0 : decode cX4_addArc 0 = .ok (.aload_n 0, 1) := by decide +kernel
theorem dX4_addArc_1 : decode cX4_addArc 1 = .ok (.getfield 25, 3) := by decide +kernel
theorem dX4_addArc_4 : decode cX4_addArc 4 = .ok (.sipush 576, 3) := by decide +kernel
theorem dX4_addArc_7 : decode cX4_addArc 7 = .ok (.if_icmp .ge 23, 3) := by decide +kernel
theorem dX4_addArc_10 : decode cX4_addArc 10 = .ok (.iload_n 1, 1) := by decide +kernel
theorem dX4_addArc_11 : decode cX4_addArc 11 = .ok (.ifCond .lt 19, 3) := by decide +kernel
theorem dX4_addArc_14 : decode cX4_addArc 14 = .ok (.iload_n 1, 1) := by decide +kernel
theorem dX4_addArc_15 : decode cX4_addArc 15 = .ok (.bipush 48, 2) := by decide +kernel
theorem dX4_addArc_17 : decode cX4_addArc 17 = .ok (.if_icmp .ge 13, 3) := by decide +kernel
theorem dX4_addArc_20 : decode cX4_addArc 20 = .ok (.iload_n 2, 1) := by decide +kernel
theorem dX4_addArc_21 : decode cX4_addArc 21 = .ok (.ifCond .lt 9, 3) := by decide +kernel
theorem dX4_addArc_24 : decode cX4_addArc 24 = .ok (.iload_n 2, 1) := by decide +kernel
theorem dX4_addArc_25 : decode cX4_addArc 25 = .ok (.bipush 48, 2) := by decide +kernel
theorem dX4_addArc_27 : decode cX4_addArc 27 = .ok (.if_icmp .lt 4, 3) := by decide +kernel
theorem dX4_addArc_30 : decode cX4_addArc 30 = .ok (.return_, 1) := by decide +kernel
theorem dX4_addArc_31 : decode cX4_addArc 31 = .ok (.aload_n 0, 1) := by decide +kernel
theorem dX4_addArc_32 : decode cX4_addArc 32 = .ok (.getfield 15, 3) := by decide +kernel
theorem dX4_addArc_35 : decode cX4_addArc 35 = .ok (.aload_n 0, 1) := by decide +kernel
theorem dX4_addArc_36 : decode cX4_addArc 36 = .ok (.getfield 25, 3) := by decide +kernel
theorem dX4_addArc_39 : decode cX4_addArc 39 = .ok (.iload_n 1, 1) := by decide +kernel
theorem dX4_addArc_40 : decode cX4_addArc 40 = .ok (.iastore, 1) := by decide +kernel
theorem dX4_addArc_41 : decode cX4_addArc 41 = .ok (.aload_n 0, 1) := by decide +kernel
theorem dX4_addArc_42 : decode cX4_addArc 42 = .ok (.getfield 19, 3) := by decide +kernel
theorem dX4_addArc_45 : decode cX4_addArc 45 = .ok (.aload_n 0, 1) := by decide +kernel
theorem dX4_addArc_46 : decode cX4_addArc 46 = .ok (.getfield 25, 3) := by decide +kernel
theorem dX4_addArc_49 : decode cX4_addArc 49 = .ok (.iload_n 2, 1) := by decide +kernel
theorem dX4_addArc_50 : decode cX4_addArc 50 = .ok (.iastore, 1) := by decide +kernel
theorem dX4_addArc_51 : decode cX4_addArc 51 = .ok (.aload_n 0, 1) := by decide +kernel
theorem dX4_addArc_52 : decode cX4_addArc 52 = .ok (.getfield 22, 3) := by decide +kernel
theorem dX4_addArc_55 : decode cX4_addArc 55 = .ok (.aload_n 0, 1) := by decide +kernel
theorem dX4_addArc_56 : decode cX4_addArc 56 = .ok (.getfield 25, 3) := by decide +kernel
theorem dX4_addArc_59 : decode cX4_addArc 59 = .ok (.iload_n 3, 1) := by decide +kernel
theorem dX4_addArc_60 : decode cX4_addArc 60 = .ok (.iastore, 1) := by decide +kernel
theorem dX4_addArc_61 : decode cX4_addArc 61 = .ok (.aload_n 0, 1) := by decide +kernel
theorem dX4_addArc_62 : decode cX4_addArc 62 = .ok (.dup, 1) := by decide +kernel
theorem dX4_addArc_63 : decode cX4_addArc 63 = .ok (.getfield 25, 3) := by decide +kernel
theorem dX4_addArc_66 : decode cX4_addArc 66 = .ok (.iconst 1, 1) := by decide +kernel
theorem dX4_addArc_67 : decode cX4_addArc 67 = .ok (.iadd, 1) := by decide +kernel
theorem dX4_addArc_68 : decode cX4_addArc 68 = .ok (.putfield 25, 3) := by decide +kernel
theorem dX4_addArc_71 : decode cX4_addArc 71 = .ok (.aload_n 0, 1) := by decide +kernel
theorem dX4_addArc_72 : decode cX4_addArc 72 = .ok (.dup, 1) := by decide +kernel
theorem dX4_addArc_73 : decode cX4_addArc 73 = .ok (.getfield 29, 3) := by decide +kernel
theorem dX4_addArc_76 : decode cX4_addArc 76 = .ok (.lconst 1, 1) := by decide +kernel
theorem dX4_addArc_77 : decode cX4_addArc 77 = .ok (.iload_n 1, 1) := by decide +kernel
theorem dX4_addArc_78 : decode cX4_addArc 78 = .ok (.lshl, 1) := by decide +kernel
theorem dX4_addArc_79 : decode cX4_addArc 79 = .ok (.lor, 1) := by decide +kernel
theorem dX4_addArc_80 : decode cX4_addArc 80 = .ok (.putfield 29, 3) := by decide +kernel
theorem dX4_addArc_83 : decode cX4_addArc 83 = .ok (.aload_n 0, 1) := by decide +kernel
theorem dX4_addArc_84 : decode cX4_addArc 84 = .ok (.dup, 1) := by decide +kernel
theorem dX4_addArc_85 : decode cX4_addArc 85 = .ok (.getfield 33, 3) := by decide +kernel
theorem dX4_addArc_88 : decode cX4_addArc 88 = .ok (.lconst 1, 1) := by decide +kernel
theorem dX4_addArc_89 : decode cX4_addArc 89 = .ok (.iload_n 2, 1) := by decide +kernel
theorem dX4_addArc_90 : decode cX4_addArc 90 = .ok (.lshl, 1) := by decide +kernel
theorem dX4_addArc_91 : decode cX4_addArc 91 = .ok (.lor, 1) := by decide +kernel
theorem dX4_addArc_92 : decode cX4_addArc 92 = .ok (.putfield 33, 3) := by decide +kernel
theorem dX4_addArc_95 : decode cX4_addArc 95 = .ok (.return_, 1) := by decide +kernel
theorem dX4_fill_0 : decode cX4_fill 0 = .ok (.iconst 0, 1) := by decide +kernel
theorem dX4_fill_1 : decode cX4_fill 1 = .ok (.istore_n 1, 1) := by decide +kernel
theorem dX4_fill_2 : decode cX4_fill 2 = .ok (.iload_n 1, 1) := by decide +kernel
theorem dX4_fill_3 : decode cX4_fill 3 = .ok (.bipush 48, 2) := by decide +kernel
theorem dX4_fill_5 : decode cX4_fill 5 = .ok (.if_icmp .ge 36, 3) := by decide +kernel
theorem dX4_fill_8 : decode cX4_fill 8 = .ok (.aload_n 0, 1) := by decide +kernel
theorem dX4_fill_9 : decode cX4_fill 9 = .ok (.bipush 49, 2) := by decide +kernel
theorem dX4_fill_11 : decode cX4_fill 11 = .ok (.invokevirtual 63, 3) := by decide +kernel
theorem dX4_fill_14 : decode cX4_fill 14 = .ok (.aload_n 0, 1) := by decide +kernel
theorem dX4_fill_15 : decode cX4_fill 15 = .ok (.getfield 45, 3) := by decide +kernel
theorem dX4_fill_18 : decode cX4_fill 18 = .ok (.bipush 48, 2) := by decide +kernel
theorem dX4_fill_20 : decode cX4_fill 20 = .ok (.iaload, 1) := by decide +kernel
theorem dX4_fill_21 : decode cX4_fill 21 = .ok (.ldc 67, 2) := by decide +kernel
theorem dX4_fill_23 : decode cX4_fill 23 = .ok (.if_icmp .ne 4, 3) := by decide +kernel
theorem dX4_fill_26 : decode cX4_fill 26 = .ok (.return_, 1) := by decide +kernel
theorem dX4_fill_27 : decode cX4_fill 27 = .ok (.aload_n 0, 1) := by decide +kernel
theorem dX4_fill_28 : decode cX4_fill 28 = .ok (.bipush 48, 2) := by decide +kernel
theorem dX4_fill_30 : decode cX4_fill 30 = .ok (.bipush 49, 2) := by decide +kernel
theorem dX4_fill_32 : decode cX4_fill 32 = .ok (.invokevirtual 68, 3) := by decide +kernel
theorem dX4_fill_35 : decode cX4_fill 35 = .ok (.iinc 1 1, 3) := by decide +kernel
theorem dX4_fill_38 : decode cX4_fill 38 = .ok (.goto (-36), 3) := by decide +kernel
theorem dX4_fill_41 : decode cX4_fill 41 = .ok (.return_, 1) := by decide +kernel
theorem dX4_chooseHoles_0 : decode cX4_chooseHoles 0 = .ok (.iconst 0, 1) := by decide +kernel
theorem dX4_chooseHoles_1 : decode cX4_chooseHoles 1 = .ok (.istore_n 1, 1) := by decide +kernel
theorem dX4_chooseHoles_2 : decode cX4_chooseHoles 2 = .ok (.iload_n 1, 1) := by decide +kernel
theorem dX4_chooseHoles_3 : decode cX4_chooseHoles 3 = .ok (.bipush 48, 2) := by decide +kernel
theorem dX4_chooseHoles_5 : decode cX4_chooseHoles 5 = .ok (.if_icmp .ge 30, 3) := by decide +kernel
theorem dX4_chooseHoles_8 : decode cX4_chooseHoles 8 = .ok (.aload_n 0, 1) := by decide +kernel
theorem dX4_chooseHoles_9 : decode cX4_chooseHoles 9 = .ok (.getfield 29, 3) := by decide +kernel
theorem dX4_chooseHoles_12 : decode cX4_chooseHoles 12 = .ok (.iload_n 1, 1) := by decide +kernel
theorem dX4_chooseHoles_13 : decode cX4_chooseHoles 13 = .ok (.invokestatic 72, 3) := by decide +kernel
theorem dX4_chooseHoles_16 : decode cX4_chooseHoles 16 = .ok (.ifCond .eq 13, 3) := by decide +kernel
theorem dX4_chooseHoles_19 : decode cX4_chooseHoles 19 = .ok (.aload_n 0, 1) := by decide +kernel
theorem dX4_chooseHoles_20 : decode cX4_chooseHoles 20 = .ok (.iload_n 1, 1) := by decide +kernel
theorem dX4_chooseHoles_21 : decode cX4_chooseHoles 21 = .ok (.invokevirtual 63, 3) := by decide +kernel
theorem dX4_chooseHoles_24 : decode cX4_chooseHoles 24 = .ok (.aload_n 0, 1) := by decide +kernel
theorem dX4_chooseHoles_25 : decode cX4_chooseHoles 25 = .ok (.iload_n 1, 1) := by decide +kernel
theorem dX4_chooseHoles_26 : decode cX4_chooseHoles 26 = .ok (.invokevirtual 76, 3) := by decide +kernel
theorem dX4_chooseHoles_29 : decode cX4_chooseHoles 29 = .ok (.iinc 1 1, 3) := by decide +kernel
theorem dX4_chooseHoles_32 : decode cX4_chooseHoles 32 = .ok (.goto (-30), 3) := by decide +kernel
theorem dX4_chooseHoles_35 : decode cX4_chooseHoles 35 = .ok (.aload_n 0, 1) := by decide +kernel
theorem dX4_chooseHoles_36 : decode cX4_chooseHoles 36 = .ok (.lconst 0, 1) := by decide +kernel
theorem dX4_chooseHoles_37 : decode cX4_chooseHoles 37 = .ok (.putfield 36, 3) := by decide +kernel
theorem dX4_chooseHoles_40 : decode cX4_chooseHoles 40 = .ok (.return_, 1) := by decide +kernel
theorem dX4_findForced_0 : decode cX4_findForced 0 = .ok (.iconst 0, 1) := by decide +kernel
theorem dX4_findForced_1 : decode cX4_findForced 1 = .ok (.istore_n 1, 1) := by decide +kernel
theorem dX4_findForced_2 : decode cX4_findForced 2 = .ok (.iload_n 1, 1) := by decide +kernel
theorem dX4_findForced_3 : decode cX4_findForced 3 = .ok (.aload_n 0, 1) := by decide +kernel
theorem dX4_findForced_4 : decode cX4_findForced 4 = .ok (.getfield 25, 3) := by decide +kernel
theorem dX4_findForced_7 : decode cX4_findForced 7 = .ok (.if_icmp .ge 102, 3) := by decide +kernel
theorem dX4_findForced_10 : decode cX4_findForced 10 = .ok (.iload_n 1, 1) := by decide +kernel
theorem dX4_findForced_11 : decode cX4_findForced 11 = .ok (.sipush 576, 3) := by decide +kernel
theorem dX4_findForced_14 : decode cX4_findForced 14 = .ok (.if_icmp .ge 95, 3) := by decide +kernel
theorem dX4_findForced_17 : decode cX4_findForced 17 = .ok (.aload_n 0, 1) := by decide +kernel
theorem dX4_findForced_18 : decode cX4_findForced 18 = .ok (.getfield 15, 3) := by decide +kernel
theorem dX4_findForced_21 : decode cX4_findForced 21 = .ok (.iload_n 1, 1) := by decide +kernel
theorem dX4_findForced_22 : decode cX4_findForced 22 = .ok (.iaload, 1) := by decide +kernel
theorem dX4_findForced_23 : decode cX4_findForced 23 = .ok (.istore_n 2, 1) := by decide +kernel
theorem dX4_findForced_24 : decode cX4_findForced 24 = .ok (.aload_n 0, 1) := by decide +kernel
theorem dX4_findForced_25 : decode cX4_findForced 25 = .ok (.getfield 19, 3) := by decide +kernel
theorem dX4_findForced_28 : decode cX4_findForced 28 = .ok (.iload_n 1, 1) := by decide +kernel
theorem dX4_findForced_29 : decode cX4_findForced 29 = .ok (.iaload, 1) := by decide +kernel
theorem dX4_findForced_30 : decode cX4_findForced 30 = .ok (.istore_n 3, 1) := by decide +kernel
theorem dX4_findForced_31 : decode cX4_findForced 31 = .ok (.aload_n 0, 1) := by decide +kernel
theorem dX4_findForced_32 : decode cX4_findForced 32 = .ok (.iload_n 2, 1) := by decide +kernel
theorem dX4_findForced_33 : decode cX4_findForced 33 = .ok (.invokevirtual 79, 3) := by decide +kernel
theorem dX4_findForced_36 : decode cX4_findForced 36 = .ok (.iload_n 3, 1) := by decide +kernel
theorem dX4_findForced_37 : decode cX4_findForced 37 = .ok (.if_icmp .ne 66, 3) := by decide +kernel
theorem dX4_findForced_40 : decode cX4_findForced 40 = .ok (.aload_n 0, 1) := by decide +kernel
theorem dX4_findForced_41 : decode cX4_findForced 41 = .ok (.dup, 1) := by decide +kernel
theorem dX4_findForced_42 : decode cX4_findForced 42 = .ok (.getfield 51, 3) := by decide +kernel
theorem dX4_findForced_45 : decode cX4_findForced 45 = .ok (.iconst 1, 1) := by decide +kernel
theorem dX4_findForced_46 : decode cX4_findForced 46 = .ok (.iadd, 1) := by decide +kernel
theorem dX4_findForced_47 : decode cX4_findForced 47 = .ok (.putfield 51, 3) := by decide +kernel
theorem dX4_findForced_50 : decode cX4_findForced 50 = .ok (.aload_n 0, 1) := by decide +kernel
theorem dX4_findForced_51 : decode cX4_findForced 51 = .ok (.dup, 1) := by decide +kernel
theorem dX4_findForced_52 : decode cX4_findForced 52 = .ok (.getfield 54, 3) := by decide +kernel
theorem dX4_findForced_55 : decode cX4_findForced 55 = .ok (.aload_n 0, 1) := by decide +kernel
theorem dX4_findForced_56 : decode cX4_findForced 56 = .ok (.getfield 22, 3) := by decide +kernel
theorem dX4_findForced_59 : decode cX4_findForced 59 = .ok (.iload_n 1, 1) := by decide +kernel
theorem dX4_findForced_60 : decode cX4_findForced 60 = .ok (.iaload, 1) := by decide +kernel
theorem dX4_findForced_61 : decode cX4_findForced 61 = .ok (.iadd, 1) := by decide +kernel
theorem dX4_findForced_62 : decode cX4_findForced 62 = .ok (.putfield 54, 3) := by decide +kernel
theorem dX4_findForced_65 : decode cX4_findForced 65 = .ok (.aload_n 0, 1) := by decide +kernel
theorem dX4_findForced_66 : decode cX4_findForced 66 = .ok (.iload_n 3, 1) := by decide +kernel
theorem dX4_findForced_67 : decode cX4_findForced 67 = .ok (.invokevirtual 63, 3) := by decide +kernel
theorem dX4_findForced_70 : decode cX4_findForced 70 = .ok (.aload_n 0, 1) := by decide +kernel
theorem dX4_findForced_71 : decode cX4_findForced 71 = .ok (.getfield 45, 3) := by decide +kernel
theorem dX4_findForced_74 : decode cX4_findForced 74 = .ok (.iload_n 2, 1) := by decide +kernel
theorem dX4_findForced_75 : decode cX4_findForced 75 = .ok (.invokestatic 83, 3) := by decide +kernel
theorem dX4_findForced_78 : decode cX4_findForced 78 = .ok (.aload_n 0, 1) := by decide +kernel
theorem dX4_findForced_79 : decode cX4_findForced 79 = .ok (.getfield 22, 3) := by decide +kernel
theorem dX4_findForced_82 : decode cX4_findForced 82 = .ok (.iload_n 1, 1) := by decide +kernel
theorem dX4_findForced_83 : decode cX4_findForced 83 = .ok (.iaload, 1) := by decide +kernel
theorem dX4_findForced_84 : decode cX4_findForced 84 = .ok (.if_icmp .eq 19, 3) := by decide +kernel
theorem dX4_findForced_87 : decode cX4_findForced 87 = .ok (.aload_n 0, 1) := by decide +kernel
theorem dX4_findForced_88 : decode cX4_findForced 88 = .ok (.dup, 1) := by decide +kernel
theorem dX4_findForced_89 : decode cX4_findForced 89 = .ok (.getfield 39, 3) := by decide +kernel
theorem dX4_findForced_92 : decode cX4_findForced 92 = .ok (.lconst 1, 1) := by decide +kernel
theorem dX4_findForced_93 : decode cX4_findForced 93 = .ok (.iload_n 2, 1) := by decide +kernel
theorem dX4_findForced_94 : decode cX4_findForced 94 = .ok (.lshl, 1) := by decide +kernel
theorem dX4_findForced_95 : decode cX4_findForced 95 = .ok (.lconst 1, 1) := by decide +kernel
theorem dX4_findForced_96 : decode cX4_findForced 96 = .ok (.iload_n 3, 1) := by decide +kernel
theorem dX4_findForced_97 : decode cX4_findForced 97 = .ok (.lshl, 1) := by decide +kernel
theorem dX4_findForced_98 : decode cX4_findForced 98 = .ok (.lor, 1) := by decide +kernel
theorem dX4_findForced_99 : decode cX4_findForced 99 = .ok (.lor, 1) := by decide +kernel
theorem dX4_findForced_100 : decode cX4_findForced 100 = .ok (.putfield 39, 3) := by decide +kernel
theorem dX4_findForced_103 : decode cX4_findForced 103 = .ok (.iinc 1 1, 3) := by decide +kernel
theorem dX4_findForced_106 : decode cX4_findForced 106 = .ok (.goto (-104), 3) := by decide +kernel
theorem dX4_findForced_109 : decode cX4_findForced 109 = .ok (.return_, 1) := by decide +kernel
theorem dX4_pairCount_0 : decode cX4_pairCount 0 = .ok (.aload_n 0, 1) := by decide +kernel
theorem dX4_pairCount_1 : decode cX4_pairCount 1 = .ok (.getfield 51, 3) := by decide +kernel
theorem dX4_pairCount_4 : decode cX4_pairCount 4 = .ok (.ireturn, 1) := by decide +kernel
theorem dX4_moreInAll_0 : decode cX4_moreInAll 0 = .ok (.aload_n 0, 1) := by decide +kernel
theorem dX4_moreInAll_1 : decode cX4_moreInAll 1 = .ok (.getfield 54, 3) := by decide +kernel
theorem dX4_moreInAll_4 : decode cX4_moreInAll 4 = .ok (.ireturn, 1) := by decide +kernel
theorem dX4_forcedCount_0 : decode cX4_forcedCount 0 = .ok (.aload_n 0, 1) := by decide +kernel
theorem dX4_forcedCount_1 : decode cX4_forcedCount 1 = .ok (.getfield 39, 3) := by decide +kernel
theorem dX4_forcedCount_4 : decode cX4_forcedCount 4 = .ok (.aload_n 0, 1) := by decide +kernel
theorem dX4_forcedCount_5 : decode cX4_forcedCount 5 = .ok (.getfield 29, 3) := by decide +kernel
theorem dX4_forcedCount_8 : decode cX4_forcedCount 8 = .ok (.land, 1) := by decide +kernel
theorem dX4_forcedCount_9 : decode cX4_forcedCount 9 = .ok (.invokestatic 87, 3) := by decide +kernel
theorem dX4_forcedCount_12 : decode cX4_forcedCount 12 = .ok (.ireturn, 1) := by decide +kernel
theorem dX4_partnerOf_0 : decode cX4_partnerOf 0 = .ok (.aload_n 0, 1) := by decide +kernel
theorem dX4_partnerOf_1 : decode cX4_partnerOf 1 = .ok (.getfield 42, 3) := by decide +kernel
theorem dX4_partnerOf_4 : decode cX4_partnerOf 4 = .ok (.iload_n 1, 1) := by decide +kernel
theorem dX4_partnerOf_5 : decode cX4_partnerOf 5 = .ok (.invokestatic 83, 3) := by decide +kernel
theorem dX4_partnerOf_8 : decode cX4_partnerOf 8 = .ok (.ireturn, 1) := by decide +kernel
theorem dX4_isForced_0 : decode cX4_isForced 0 = .ok (.aload_n 0, 1) := by decide +kernel
theorem dX4_isForced_1 : decode cX4_isForced 1 = .ok (.getfield 39, 3) := by decide +kernel
theorem dX4_isForced_4 : decode cX4_isForced 4 = .ok (.iload_n 1, 1) := by decide +kernel
theorem dX4_isForced_5 : decode cX4_isForced 5 = .ok (.invokestatic 72, 3) := by decide +kernel
theorem dX4_isForced_8 : decode cX4_isForced 8 = .ok (.ireturn, 1) := by decide +kernel
theorem dX4_chooseFirstHole_0 : decode cX4_chooseFirstHole 0 = .ok (.iconst 0, 1) := by decide +kernel
theorem dX4_chooseFirstHole_1 : decode cX4_chooseFirstHole 1 = .ok (.istore_n 2, 1) := by decide +kernel
theorem dX4_chooseFirstHole_2 : decode cX4_chooseFirstHole 2 = .ok (.iload_n 2, 1) := by decide +kernel
theorem dX4_chooseFirstHole_3 : decode cX4_chooseFirstHole 3 = .ok (.aload_n 0, 1) := by decide +kernel
theorem dX4_chooseFirstHole_4 : decode cX4_chooseFirstHole 4 = .ok (.getfield 25, 3) := by decide +kernel
theorem dX4_chooseFirstHole_7 : decode cX4_chooseFirstHole 7 = .ok (.if_icmp .ge 81, 3) := by decide +kernel
theorem dX4_chooseFirstHole_10 : decode cX4_chooseFirstHole 10 = .ok (.iload_n 2, 1) := by decide +kernel
theorem dX4_chooseFirstHole_11 : decode cX4_chooseFirstHole 11 = .ok (.sipush 576, 3) := by decide +kernel
theorem dX4_chooseFirstHole_14 : decode cX4_chooseFirstHole 14 = .ok (.if_icmp .ge 74, 3) := by decide +kernel
theorem dX4_chooseFirstHole_17 : decode cX4_chooseFirstHole 17 = .ok (.aload_n 0, 1) := by decide +kernel
theorem dX4_chooseFirstHole_18 : decode cX4_chooseFirstHole 18 = .ok (.getfield 19, 3) := by decide +kernel
theorem dX4_chooseFirstHole_21 : decode cX4_chooseFirstHole 21 = .ok (.iload_n 2, 1) := by decide +kernel
theorem dX4_chooseFirstHole_22 : decode cX4_chooseFirstHole 22 = .ok (.iaload, 1) := by decide +kernel
theorem dX4_chooseFirstHole_23 : decode cX4_chooseFirstHole 23 = .ok (.istore_n 3, 1) := by decide +kernel
theorem dX4_chooseFirstHole_24 : decode cX4_chooseFirstHole 24 = .ok (.aload_n 0, 1) := by decide +kernel
theorem dX4_chooseFirstHole_25 : decode cX4_chooseFirstHole 25 = .ok (.getfield 15, 3) := by decide +kernel
theorem dX4_chooseFirstHole_28 : decode cX4_chooseFirstHole 28 = .ok (.iload_n 2, 1) := by decide +kernel
theorem dX4_chooseFirstHole_29 : decode cX4_chooseFirstHole 29 = .ok (.iaload, 1) := by decide +kernel
theorem dX4_chooseFirstHole_30 : decode cX4_chooseFirstHole 30 = .ok (.iload_n 1, 1) := by decide +kernel
theorem dX4_chooseFirstHole_31 : decode cX4_chooseFirstHole 31 = .ok (.if_icmp .eq 6, 3) := by decide +kernel
theorem dX4_chooseFirstHole_34 : decode cX4_chooseFirstHole 34 = .ok (.goto 48, 3) := by decide +kernel
theorem dX4_chooseFirstHole_37 : decode cX4_chooseFirstHole 37 = .ok (.aload_n 0, 1) := by decide +kernel
theorem dX4_chooseFirstHole_38 : decode cX4_chooseFirstHole 38 = .ok (.iload_n 1, 1) := by decide +kernel
theorem dX4_chooseFirstHole_39 : decode cX4_chooseFirstHole 39 = .ok (.invokevirtual 79, 3) := by decide +kernel
theorem dX4_chooseFirstHole_42 : decode cX4_chooseFirstHole 42 = .ok (.iload_n 3, 1) := by decide +kernel
theorem dX4_chooseFirstHole_43 : decode cX4_chooseFirstHole 43 = .ok (.if_icmp .ne 6, 3) := by decide +kernel
theorem dX4_chooseFirstHole_46 : decode cX4_chooseFirstHole 46 = .ok (.goto 42, 3) := by decide +kernel
theorem dX4_chooseFirstHole_49 : decode cX4_chooseFirstHole 49 = .ok (.aload_n 0, 1) := by decide +kernel
theorem dX4_chooseFirstHole_50 : decode cX4_chooseFirstHole 50 = .ok (.getfield 45, 3) := by decide +kernel
theorem dX4_chooseFirstHole_53 : decode cX4_chooseFirstHole 53 = .ok (.iload_n 3, 1) := by decide +kernel
theorem dX4_chooseFirstHole_54 : decode cX4_chooseFirstHole 54 = .ok (.invokestatic 83, 3) := by decide +kernel
theorem dX4_chooseFirstHole_57 : decode cX4_chooseFirstHole 57 = .ok (.aload_n 0, 1) := by decide +kernel
theorem dX4_chooseFirstHole_58 : decode cX4_chooseFirstHole 58 = .ok (.getfield 22, 3) := by decide +kernel
theorem dX4_chooseFirstHole_61 : decode cX4_chooseFirstHole 61 = .ok (.iload_n 2, 1) := by decide +kernel
theorem dX4_chooseFirstHole_62 : decode cX4_chooseFirstHole 62 = .ok (.iaload, 1) := by decide +kernel
theorem dX4_chooseFirstHole_63 : decode cX4_chooseFirstHole 63 = .ok (.ineg, 1) := by decide +kernel
theorem dX4_chooseFirstHole_64 : decode cX4_chooseFirstHole 64 = .ok (.if_icmp .ne 18, 3) := by decide +kernel
theorem dX4_chooseFirstHole_67 : decode cX4_chooseFirstHole 67 = .ok (.aload_n 0, 1) := by decide +kernel
theorem dX4_chooseFirstHole_68 : decode cX4_chooseFirstHole 68 = .ok (.iload_n 3, 1) := by decide +kernel
theorem dX4_chooseFirstHole_69 : decode cX4_chooseFirstHole 69 = .ok (.iload_n 1, 1) := by decide +kernel
theorem dX4_chooseFirstHole_70 : decode cX4_chooseFirstHole 70 = .ok (.invokevirtual 68, 3) := by decide +kernel
theorem dX4_chooseFirstHole_73 : decode cX4_chooseFirstHole 73 = .ok (.aload_n 0, 1) := by decide +kernel
theorem dX4_chooseFirstHole_74 : decode cX4_chooseFirstHole 74 = .ok (.iload_n 1, 1) := by decide +kernel
theorem dX4_chooseFirstHole_75 : decode cX4_chooseFirstHole 75 = .ok (.iload_n 3, 1) := by decide +kernel
theorem dX4_chooseFirstHole_76 : decode cX4_chooseFirstHole 76 = .ok (.invokevirtual 93, 3) := by decide +kernel
theorem dX4_chooseFirstHole_79 : decode cX4_chooseFirstHole 79 = .ok (.goto 9, 3) := by decide +kernel
theorem dX4_chooseFirstHole_82 : decode cX4_chooseFirstHole 82 = .ok (.iinc 2 1, 3) := by decide +kernel
theorem dX4_chooseFirstHole_85 : decode cX4_chooseFirstHole 85 = .ok (.goto (-83), 3) := by decide +kernel
theorem dX4_chooseFirstHole_88 : decode cX4_chooseFirstHole 88 = .ok (.aload_n 0, 1) := by decide +kernel
theorem dX4_chooseFirstHole_89 : decode cX4_chooseFirstHole 89 = .ok (.dup, 1) := by decide +kernel
theorem dX4_chooseFirstHole_90 : decode cX4_chooseFirstHole 90 = .ok (.getfield 36, 3) := by decide +kernel
theorem dX4_chooseFirstHole_93 : decode cX4_chooseFirstHole 93 = .ok (.lconst 1, 1) := by decide +kernel
theorem dX4_chooseFirstHole_94 : decode cX4_chooseFirstHole 94 = .ok (.iload_n 1, 1) := by decide +kernel
theorem dX4_chooseFirstHole_95 : decode cX4_chooseFirstHole 95 = .ok (.lshl, 1) := by decide +kernel
theorem dX4_chooseFirstHole_96 : decode cX4_chooseFirstHole 96 = .ok (.lor, 1) := by decide +kernel
theorem dX4_chooseFirstHole_97 : decode cX4_chooseFirstHole 97 = .ok (.putfield 36, 3) := by decide +kernel
theorem dX4_chooseFirstHole_100 : decode cX4_chooseFirstHole 100 = .ok (.return_, 1) := by decide +kernel
theorem dX4_measureTo_0 : decode cX4_measureTo 0 = .ok (.aload_n 0, 1) := by decide +kernel
theorem dX4_measureTo_1 : decode cX4_measureTo 1 = .ok (.getfield 45, 3) := by decide +kernel
theorem dX4_measureTo_4 : decode cX4_measureTo 4 = .ok (.ldc 67, 2) := by decide +kernel
theorem dX4_measureTo_6 : decode cX4_measureTo 6 = .ok (.invokestatic 57, 3) := by decide +kernel
theorem dX4_measureTo_9 : decode cX4_measureTo 9 = .ok (.aload_n 0, 1) := by decide +kernel
theorem dX4_measureTo_10 : decode cX4_measureTo 10 = .ok (.getfield 48, 3) := by decide +kernel
theorem dX4_measureTo_13 : decode cX4_measureTo 13 = .ok (.iconst (-1), 1) := by decide +kernel
theorem dX4_measureTo_14 : decode cX4_measureTo 14 = .ok (.invokestatic 57, 3) := by decide +kernel
theorem dX4_measureTo_17 : decode cX4_measureTo 17 = .ok (.iload_n 1, 1) := by decide +kernel
theorem dX4_measureTo_18 : decode cX4_measureTo 18 = .ok (.ifCond .lt 16, 3) := by decide +kernel
theorem dX4_measureTo_21 : decode cX4_measureTo 21 = .ok (.iload_n 1, 1) := by decide +kernel
theorem dX4_measureTo_22 : decode cX4_measureTo 22 = .ok (.bipush 50, 2) := by decide +kernel
theorem dX4_measureTo_24 : decode cX4_measureTo 24 = .ok (.if_icmp .ge 10, 3) := by decide +kernel
theorem dX4_measureTo_27 : decode cX4_measureTo 27 = .ok (.aload_n 0, 1) := by decide +kernel
theorem dX4_measureTo_28 : decode cX4_measureTo 28 = .ok (.getfield 45, 3) := by decide +kernel
theorem dX4_measureTo_31 : decode cX4_measureTo 31 = .ok (.iload_n 1, 1) := by decide +kernel
theorem dX4_measureTo_32 : decode cX4_measureTo 32 = .ok (.iconst 0, 1) := by decide +kernel
theorem dX4_measureTo_33 : decode cX4_measureTo 33 = .ok (.iastore, 1) := by decide +kernel
theorem dX4_measureTo_34 : decode cX4_measureTo 34 = .ok (.iconst 1, 1) := by decide +kernel
theorem dX4_measureTo_35 : decode cX4_measureTo 35 = .ok (.istore_n 2, 1) := by decide +kernel
theorem dX4_measureTo_36 : decode cX4_measureTo 36 = .ok (.iconst 0, 1) := by decide +kernel
theorem dX4_measureTo_37 : decode cX4_measureTo 37 = .ok (.istore_n 3, 1) := by decide +kernel
theorem dX4_measureTo_38 : decode cX4_measureTo 38 = .ok (.iload_n 3, 1) := by decide +kernel
theorem dX4_measureTo_39 : decode cX4_measureTo 39 = .ok (.bipush 50, 2) := by decide +kernel
theorem dX4_measureTo_41 : decode cX4_measureTo 41 = .ok (.if_icmp .ge 35, 3) := by decide +kernel
theorem dX4_measureTo_44 : decode cX4_measureTo 44 = .ok (.iload_n 2, 1) := by decide +kernel
theorem dX4_measureTo_45 : decode cX4_measureTo 45 = .ok (.ifCond .eq 31, 3) := by decide +kernel
theorem dX4_measureTo_48 : decode cX4_measureTo 48 = .ok (.aload_n 0, 1) := by decide +kernel
theorem dX4_measureTo_49 : decode cX4_measureTo 49 = .ok (.invokevirtual 96, 3) := by decide +kernel
theorem dX4_measureTo_52 : decode cX4_measureTo 52 = .ok (.istore_n 2, 1) := by decide +kernel
theorem dX4_measureTo_53 : decode cX4_measureTo 53 = .ok (.aload_n 0, 1) := by decide +kernel
theorem dX4_measureTo_54 : decode cX4_measureTo 54 = .ok (.invokevirtual 100, 3) := by decide +kernel
theorem dX4_measureTo_57 : decode cX4_measureTo 57 = .ok (.ifCond .ne 7, 3) := by decide +kernel
theorem dX4_measureTo_60 : decode cX4_measureTo 60 = .ok (.iload_n 2, 1) := by decide +kernel
theorem dX4_measureTo_61 : decode cX4_measureTo 61 = .ok (.ifCond .eq 7, 3) := by decide +kernel
theorem dX4_measureTo_64 : decode cX4_measureTo 64 = .ok (.iconst 1, 1) := by decide +kernel
theorem dX4_measureTo_65 : decode cX4_measureTo 65 = .ok (.goto 4, 3) := by decide +kernel
theorem dX4_measureTo_68 : decode cX4_measureTo 68 = .ok (.iconst 0, 1) := by decide +kernel
theorem dX4_measureTo_69 : decode cX4_measureTo 69 = .ok (.istore_n 2, 1) := by decide +kernel
theorem dX4_measureTo_70 : decode cX4_measureTo 70 = .ok (.iinc 3 1, 3) := by decide +kernel
theorem dX4_measureTo_73 : decode cX4_measureTo 73 = .ok (.goto (-35), 3) := by decide +kernel
theorem dX4_measureTo_76 : decode cX4_measureTo 76 = .ok (.return_, 1) := by decide +kernel
theorem dX4_relaxArcs_0 : decode cX4_relaxArcs 0 = .ok (.iconst 0, 1) := by decide +kernel
theorem dX4_relaxArcs_1 : decode cX4_relaxArcs 1 = .ok (.istore_n 1, 1) := by decide +kernel
theorem dX4_relaxArcs_2 : decode cX4_relaxArcs 2 = .ok (.iconst 0, 1) := by decide +kernel
theorem dX4_relaxArcs_3 : decode cX4_relaxArcs 3 = .ok (.istore_n 2, 1) := by decide +kernel
theorem dX4_relaxArcs_4 : decode cX4_relaxArcs 4 = .ok (.iload_n 2, 1) := by decide +kernel
theorem dX4_relaxArcs_5 : decode cX4_relaxArcs 5 = .ok (.aload_n 0, 1) := by decide +kernel
theorem dX4_relaxArcs_6 : decode cX4_relaxArcs 6 = .ok (.getfield 25, 3) := by decide +kernel
theorem dX4_relaxArcs_9 : decode cX4_relaxArcs 9 = .ok (.if_icmp .ge 114, 3) := by decide +kernel
theorem dX4_relaxArcs_12 : decode cX4_relaxArcs 12 = .ok (.iload_n 2, 1) := by decide +kernel
theorem dX4_relaxArcs_13 : decode cX4_relaxArcs 13 = .ok (.sipush 576, 3) := by decide +kernel
theorem dX4_relaxArcs_16 : decode cX4_relaxArcs 16 = .ok (.if_icmp .ge 107, 3) := by decide +kernel
theorem dX4_relaxArcs_19 : decode cX4_relaxArcs 19 = .ok (.aload_n 0, 1) := by decide +kernel
theorem dX4_relaxArcs_20 : decode cX4_relaxArcs 20 = .ok (.getfield 15, 3) := by decide +kernel
theorem dX4_relaxArcs_23 : decode cX4_relaxArcs 23 = .ok (.iload_n 2, 1) := by decide +kernel
theorem dX4_relaxArcs_24 : decode cX4_relaxArcs 24 = .ok (.iaload, 1) := by decide +kernel
theorem dX4_relaxArcs_25 : decode cX4_relaxArcs 25 = .ok (.istore_n 3, 1) := by decide +kernel
theorem dX4_relaxArcs_26 : decode cX4_relaxArcs 26 = .ok (.aload_n 0, 1) := by decide +kernel
theorem dX4_relaxArcs_27 : decode cX4_relaxArcs 27 = .ok (.getfield 19, 3) := by decide +kernel
theorem dX4_relaxArcs_30 : decode cX4_relaxArcs 30 = .ok (.iload_n 2, 1) := by decide +kernel
theorem dX4_relaxArcs_31 : decode cX4_relaxArcs 31 = .ok (.iaload, 1) := by decide +kernel
theorem dX4_relaxArcs_32 : decode cX4_relaxArcs 32 = .ok (.istore 4, 2) := by decide +kernel
theorem dX4_relaxArcs_34 : decode cX4_relaxArcs 34 = .ok (.aload_n 0, 1) := by decide +kernel
theorem dX4_relaxArcs_35 : decode cX4_relaxArcs 35 = .ok (.getfield 36, 3) := by decide +kernel
theorem dX4_relaxArcs_38 : decode cX4_relaxArcs 38 = .ok (.iload_n 3, 1) := by decide +kernel
theorem dX4_relaxArcs_39 : decode cX4_relaxArcs 39 = .ok (.invokestatic 72, 3) := by decide +kernel
theorem dX4_relaxArcs_42 : decode cX4_relaxArcs 42 = .ok (.ifCond .eq 6, 3) := by decide +kernel
theorem dX4_relaxArcs_45 : decode cX4_relaxArcs 45 = .ok (.goto 72, 3) := by decide +kernel
theorem dX4_relaxArcs_48 : decode cX4_relaxArcs 48 = .ok (.aload_n 0, 1) := by decide +kernel
theorem dX4_relaxArcs_49 : decode cX4_relaxArcs 49 = .ok (.getfield 42, 3) := by decide +kernel
theorem dX4_relaxArcs_52 : decode cX4_relaxArcs 52 = .ok (.iload_n 3, 1) := by decide +kernel
theorem dX4_relaxArcs_53 : decode cX4_relaxArcs 53 = .ok (.invokestatic 83, 3) := by decide +kernel
theorem dX4_relaxArcs_56 : decode cX4_relaxArcs 56 = .ok (.iload 4, 2) := by decide +kernel
theorem dX4_relaxArcs_58 : decode cX4_relaxArcs 58 = .ok (.if_icmp .ne 33, 3) := by decide +kernel
theorem dX4_relaxArcs_61 : decode cX4_relaxArcs 61 = .ok (.aload_n 0, 1) := by decide +kernel
theorem dX4_relaxArcs_62 : decode cX4_relaxArcs 62 = .ok (.iload 4, 2) := by decide +kernel
theorem dX4_relaxArcs_64 : decode cX4_relaxArcs 64 = .ok (.iload_n 3, 1) := by decide +kernel
theorem dX4_relaxArcs_65 : decode cX4_relaxArcs 65 = .ok (.aload_n 0, 1) := by decide +kernel
theorem dX4_relaxArcs_66 : decode cX4_relaxArcs 66 = .ok (.getfield 22, 3) := by decide +kernel
theorem dX4_relaxArcs_69 : decode cX4_relaxArcs 69 = .ok (.iload_n 2, 1) := by decide +kernel
theorem dX4_relaxArcs_70 : decode cX4_relaxArcs 70 = .ok (.iaload, 1) := by decide +kernel
theorem dX4_relaxArcs_71 : decode cX4_relaxArcs 71 = .ok (.ineg, 1) := by decide +kernel
theorem dX4_relaxArcs_72 : decode cX4_relaxArcs 72 = .ok (.invokevirtual 103, 3) := by decide +kernel
theorem dX4_relaxArcs_75 : decode cX4_relaxArcs 75 = .ok (.ifCond .ne 7, 3) := by decide +kernel
theorem dX4_relaxArcs_78 : decode cX4_relaxArcs 78 = .ok (.iload_n 1, 1) := by decide +kernel
theorem dX4_relaxArcs_79 : decode cX4_relaxArcs 79 = .ok (.ifCond .eq 7, 3) := by decide +kernel
theorem dX4_relaxArcs_82 : decode cX4_relaxArcs 82 = .ok (.iconst 1, 1) := by decide +kernel
theorem dX4_relaxArcs_83 : decode cX4_relaxArcs 83 = .ok (.goto 4, 3) := by decide +kernel
theorem dX4_relaxArcs_86 : decode cX4_relaxArcs 86 = .ok (.iconst 0, 1) := by decide +kernel
theorem dX4_relaxArcs_87 : decode cX4_relaxArcs 87 = .ok (.istore_n 1, 1) := by decide +kernel
theorem dX4_relaxArcs_88 : decode cX4_relaxArcs 88 = .ok (.goto 29, 3) := by decide +kernel
theorem dX4_relaxArcs_91 : decode cX4_relaxArcs 91 = .ok (.aload_n 0, 1) := by decide +kernel
theorem dX4_relaxArcs_92 : decode cX4_relaxArcs 92 = .ok (.iload_n 3, 1) := by decide +kernel
theorem dX4_relaxArcs_93 : decode cX4_relaxArcs 93 = .ok (.iload 4, 2) := by decide +kernel
theorem dX4_relaxArcs_95 : decode cX4_relaxArcs 95 = .ok (.aload_n 0, 1) := by decide +kernel
theorem dX4_relaxArcs_96 : decode cX4_relaxArcs 96 = .ok (.getfield 22, 3) := by decide +kernel
theorem dX4_relaxArcs_99 : decode cX4_relaxArcs 99 = .ok (.iload_n 2, 1) := by decide +kernel
theorem dX4_relaxArcs_100 : decode cX4_relaxArcs 100 = .ok (.iaload, 1) := by decide +kernel
theorem dX4_relaxArcs_101 : decode cX4_relaxArcs 101 = .ok (.invokevirtual 103, 3) := by decide +kernel
theorem dX4_relaxArcs_104 : decode cX4_relaxArcs 104 = .ok (.ifCond .ne 7, 3) := by decide +kernel
theorem dX4_relaxArcs_107 : decode cX4_relaxArcs 107 = .ok (.iload_n 1, 1) := by decide +kernel
theorem dX4_relaxArcs_108 : decode cX4_relaxArcs 108 = .ok (.ifCond .eq 7, 3) := by decide +kernel
theorem dX4_relaxArcs_111 : decode cX4_relaxArcs 111 = .ok (.iconst 1, 1) := by decide +kernel
theorem dX4_relaxArcs_112 : decode cX4_relaxArcs 112 = .ok (.goto 4, 3) := by decide +kernel
theorem dX4_relaxArcs_115 : decode cX4_relaxArcs 115 = .ok (.iconst 0, 1) := by decide +kernel
theorem dX4_relaxArcs_116 : decode cX4_relaxArcs 116 = .ok (.istore_n 1, 1) := by decide +kernel
theorem dX4_relaxArcs_117 : decode cX4_relaxArcs 117 = .ok (.iinc 2 1, 3) := by decide +kernel
theorem dX4_relaxArcs_120 : decode cX4_relaxArcs 120 = .ok (.goto (-116), 3) := by decide +kernel
theorem dX4_relaxArcs_123 : decode cX4_relaxArcs 123 = .ok (.iload_n 1, 1) := by decide +kernel
theorem dX4_relaxArcs_124 : decode cX4_relaxArcs 124 = .ok (.ireturn, 1) := by decide +kernel
theorem dX4_relaxEnds_0 : decode cX4_relaxEnds 0 = .ok (.iconst 0, 1) := by decide +kernel
theorem dX4_relaxEnds_1 : decode cX4_relaxEnds 1 = .ok (.istore_n 1, 1) := by decide +kernel
theorem dX4_relaxEnds_2 : decode cX4_relaxEnds 2 = .ok (.iconst 0, 1) := by decide +kernel
theorem dX4_relaxEnds_3 : decode cX4_relaxEnds 3 = .ok (.istore_n 2, 1) := by decide +kernel
theorem dX4_relaxEnds_4 : decode cX4_relaxEnds 4 = .ok (.iload_n 2, 1) := by decide +kernel
theorem dX4_relaxEnds_5 : decode cX4_relaxEnds 5 = .ok (.bipush 48, 2) := by decide +kernel
theorem dX4_relaxEnds_7 : decode cX4_relaxEnds 7 = .ok (.if_icmp .ge 142, 3) := by decide +kernel
theorem dX4_relaxEnds_10 : decode cX4_relaxEnds 10 = .ok (.aload_n 0, 1) := by decide +kernel
theorem dX4_relaxEnds_11 : decode cX4_relaxEnds 11 = .ok (.getfield 36, 3) := by decide +kernel
theorem dX4_relaxEnds_14 : decode cX4_relaxEnds 14 = .ok (.iload_n 2, 1) := by decide +kernel
theorem dX4_relaxEnds_15 : decode cX4_relaxEnds 15 = .ok (.invokestatic 72, 3) := by decide +kernel
theorem dX4_relaxEnds_18 : decode cX4_relaxEnds 18 = .ok (.ifCond .eq 6, 3) := by decide +kernel
theorem dX4_relaxEnds_21 : decode cX4_relaxEnds 21 = .ok (.goto 122, 3) := by decide +kernel
theorem dX4_relaxEnds_24 : decode cX4_relaxEnds 24 = .ok (.aload_n 0, 1) := by decide +kernel
theorem dX4_relaxEnds_25 : decode cX4_relaxEnds 25 = .ok (.getfield 42, 3) := by decide +kernel
theorem dX4_relaxEnds_28 : decode cX4_relaxEnds 28 = .ok (.iload_n 2, 1) := by decide +kernel
theorem dX4_relaxEnds_29 : decode cX4_relaxEnds 29 = .ok (.iaload, 1) := by decide +kernel
theorem dX4_relaxEnds_30 : decode cX4_relaxEnds 30 = .ok (.iconst (-1), 1) := by decide +kernel
theorem dX4_relaxEnds_31 : decode cX4_relaxEnds 31 = .ok (.if_icmp .ne 7, 3) := by decide +kernel
theorem dX4_relaxEnds_34 : decode cX4_relaxEnds 34 = .ok (.iconst 1, 1) := by decide +kernel
theorem dX4_relaxEnds_35 : decode cX4_relaxEnds 35 = .ok (.goto 4, 3) := by decide +kernel
theorem dX4_relaxEnds_38 : decode cX4_relaxEnds 38 = .ok (.iconst 0, 1) := by decide +kernel
theorem dX4_relaxEnds_39 : decode cX4_relaxEnds 39 = .ok (.istore_n 3, 1) := by decide +kernel
theorem dX4_relaxEnds_40 : decode cX4_relaxEnds 40 = .ok (.aload_n 0, 1) := by decide +kernel
theorem dX4_relaxEnds_41 : decode cX4_relaxEnds 41 = .ok (.getfield 29, 3) := by decide +kernel
theorem dX4_relaxEnds_44 : decode cX4_relaxEnds 44 = .ok (.iload_n 2, 1) := by decide +kernel
theorem dX4_relaxEnds_45 : decode cX4_relaxEnds 45 = .ok (.invokestatic 72, 3) := by decide +kernel
theorem dX4_relaxEnds_48 : decode cX4_relaxEnds 48 = .ok (.ifCond .eq 45, 3) := by decide +kernel
theorem dX4_relaxEnds_51 : decode cX4_relaxEnds 51 = .ok (.iload_n 3, 1) := by decide +kernel
theorem dX4_relaxEnds_52 : decode cX4_relaxEnds 52 = .ok (.ifCond .eq 17, 3) := by decide +kernel
theorem dX4_relaxEnds_55 : decode cX4_relaxEnds 55 = .ok (.aload_n 0, 1) := by decide +kernel
theorem dX4_relaxEnds_56 : decode cX4_relaxEnds 56 = .ok (.bipush 48, 2) := by decide +kernel
theorem dX4_relaxEnds_58 : decode cX4_relaxEnds 58 = .ok (.iload_n 2, 1) := by decide +kernel
theorem dX4_relaxEnds_59 : decode cX4_relaxEnds 59 = .ok (.iconst 0, 1) := by decide +kernel
theorem dX4_relaxEnds_60 : decode cX4_relaxEnds 60 = .ok (.invokevirtual 103, 3) := by decide +kernel
theorem dX4_relaxEnds_63 : decode cX4_relaxEnds 63 = .ok (.ifCond .eq 17, 3) := by decide +kernel
theorem dX4_relaxEnds_66 : decode cX4_relaxEnds 66 = .ok (.goto 18, 3) := by decide +kernel
theorem dX4_relaxEnds_69 : decode cX4_relaxEnds 69 = .ok (.aload_n 0, 1) := by decide +kernel
theorem dX4_relaxEnds_70 : decode cX4_relaxEnds 70 = .ok (.iload_n 2, 1) := by decide +kernel
theorem dX4_relaxEnds_71 : decode cX4_relaxEnds 71 = .ok (.bipush 48, 2) := by decide +kernel
theorem dX4_relaxEnds_73 : decode cX4_relaxEnds 73 = .ok (.iconst 0, 1) := by decide +kernel
theorem dX4_relaxEnds_74 : decode cX4_relaxEnds 74 = .ok (.invokevirtual 103, 3) := by decide +kernel
theorem dX4_relaxEnds_77 : decode cX4_relaxEnds 77 = .ok (.ifCond .ne 7, 3) := by decide +kernel
theorem dX4_relaxEnds_80 : decode cX4_relaxEnds 80 = .ok (.iload_n 1, 1) := by decide +kernel
theorem dX4_relaxEnds_81 : decode cX4_relaxEnds 81 = .ok (.ifCond .eq 7, 3) := by decide +kernel
theorem dX4_relaxEnds_84 : decode cX4_relaxEnds 84 = .ok (.iconst 1, 1) := by decide +kernel
theorem dX4_relaxEnds_85 : decode cX4_relaxEnds 85 = .ok (.goto 4, 3) := by decide +kernel
theorem dX4_relaxEnds_88 : decode cX4_relaxEnds 88 = .ok (.iconst 0, 1) := by decide +kernel
theorem dX4_relaxEnds_89 : decode cX4_relaxEnds 89 = .ok (.istore_n 1, 1) := by decide +kernel
theorem dX4_relaxEnds_90 : decode cX4_relaxEnds 90 = .ok (.goto 53, 3) := by decide +kernel
theorem dX4_relaxEnds_93 : decode cX4_relaxEnds 93 = .ok (.aload_n 0, 1) := by decide +kernel
theorem dX4_relaxEnds_94 : decode cX4_relaxEnds 94 = .ok (.getfield 33, 3) := by decide +kernel
theorem dX4_relaxEnds_97 : decode cX4_relaxEnds 97 = .ok (.iload_n 2, 1) := by decide +kernel
theorem dX4_relaxEnds_98 : decode cX4_relaxEnds 98 = .ok (.invokestatic 72, 3) := by decide +kernel
theorem dX4_relaxEnds_101 : decode cX4_relaxEnds 101 = .ok (.ifCond .eq 42, 3) := by decide +kernel
theorem dX4_relaxEnds_104 : decode cX4_relaxEnds 104 = .ok (.iload_n 3, 1) := by decide +kernel
theorem dX4_relaxEnds_105 : decode cX4_relaxEnds 105 = .ok (.ifCond .eq 17, 3) := by decide +kernel
theorem dX4_relaxEnds_108 : decode cX4_relaxEnds 108 = .ok (.aload_n 0, 1) := by decide +kernel
theorem dX4_relaxEnds_109 : decode cX4_relaxEnds 109 = .ok (.iload_n 2, 1) := by decide +kernel
theorem dX4_relaxEnds_110 : decode cX4_relaxEnds 110 = .ok (.bipush 49, 2) := by decide +kernel
theorem dX4_relaxEnds_112 : decode cX4_relaxEnds 112 = .ok (.iconst 0, 1) := by decide +kernel
theorem dX4_relaxEnds_113 : decode cX4_relaxEnds 113 = .ok (.invokevirtual 103, 3) := by decide +kernel
theorem dX4_relaxEnds_116 : decode cX4_relaxEnds 116 = .ok (.ifCond .eq 17, 3) := by decide +kernel
theorem dX4_relaxEnds_119 : decode cX4_relaxEnds 119 = .ok (.goto 18, 3) := by decide +kernel
theorem dX4_relaxEnds_122 : decode cX4_relaxEnds 122 = .ok (.aload_n 0, 1) := by decide +kernel
theorem dX4_relaxEnds_123 : decode cX4_relaxEnds 123 = .ok (.bipush 49, 2) := by decide +kernel
theorem dX4_relaxEnds_125 : decode cX4_relaxEnds 125 = .ok (.iload_n 2, 1) := by decide +kernel
theorem dX4_relaxEnds_126 : decode cX4_relaxEnds 126 = .ok (.iconst 0, 1) := by decide +kernel
theorem dX4_relaxEnds_127 : decode cX4_relaxEnds 127 = .ok (.invokevirtual 103, 3) := by decide +kernel
theorem dX4_relaxEnds_130 : decode cX4_relaxEnds 130 = .ok (.ifCond .ne 7, 3) := by decide +kernel
theorem dX4_relaxEnds_133 : decode cX4_relaxEnds 133 = .ok (.iload_n 1, 1) := by decide +kernel
theorem dX4_relaxEnds_134 : decode cX4_relaxEnds 134 = .ok (.ifCond .eq 7, 3) := by decide +kernel
theorem dX4_relaxEnds_137 : decode cX4_relaxEnds 137 = .ok (.iconst 1, 1) := by decide +kernel
theorem dX4_relaxEnds_138 : decode cX4_relaxEnds 138 = .ok (.goto 4, 3) := by decide +kernel
theorem dX4_relaxEnds_141 : decode cX4_relaxEnds 141 = .ok (.iconst 0, 1) := by decide +kernel
theorem dX4_relaxEnds_142 : decode cX4_relaxEnds 142 = .ok (.istore_n 1, 1) := by decide +kernel
theorem dX4_relaxEnds_143 : decode cX4_relaxEnds 143 = .ok (.iinc 2 1, 3) := by decide +kernel
theorem dX4_relaxEnds_146 : decode cX4_relaxEnds 146 = .ok (.goto (-142), 3) := by decide +kernel
theorem dX4_relaxEnds_149 : decode cX4_relaxEnds 149 = .ok (.iload_n 1, 1) := by decide +kernel
theorem dX4_relaxEnds_150 : decode cX4_relaxEnds 150 = .ok (.ireturn, 1) := by decide +kernel
theorem dX4_relax_0 : decode cX4_relax 0 = .ok (.iload_n 1, 1) := by decide +kernel
theorem dX4_relax_1 : decode cX4_relax 1 = .ok (.ifCond .lt 19, 3) := by decide +kernel
theorem dX4_relax_4 : decode cX4_relax 4 = .ok (.iload_n 1, 1) := by decide +kernel
theorem dX4_relax_5 : decode cX4_relax 5 = .ok (.bipush 50, 2) := by decide +kernel
theorem dX4_relax_7 : decode cX4_relax 7 = .ok (.if_icmp .ge 13, 3) := by decide +kernel
theorem dX4_relax_10 : decode cX4_relax 10 = .ok (.iload_n 2, 1) := by decide +kernel
theorem dX4_relax_11 : decode cX4_relax 11 = .ok (.ifCond .lt 9, 3) := by decide +kernel
theorem dX4_relax_14 : decode cX4_relax 14 = .ok (.iload_n 2, 1) := by decide +kernel
theorem dX4_relax_15 : decode cX4_relax 15 = .ok (.bipush 50, 2) := by decide +kernel
theorem dX4_relax_17 : decode cX4_relax 17 = .ok (.if_icmp .lt 5, 3) := by decide +kernel
theorem dX4_relax_20 : decode cX4_relax 20 = .ok (.iconst 0, 1) := by decide +kernel
theorem dX4_relax_21 : decode cX4_relax 21 = .ok (.ireturn, 1) := by decide +kernel
theorem dX4_relax_22 : decode cX4_relax 22 = .ok (.aload_n 0, 1) := by decide +kernel
theorem dX4_relax_23 : decode cX4_relax 23 = .ok (.getfield 45, 3) := by decide +kernel
theorem dX4_relax_26 : decode cX4_relax 26 = .ok (.iload_n 2, 1) := by decide +kernel
theorem dX4_relax_27 : decode cX4_relax 27 = .ok (.iaload, 1) := by decide +kernel
theorem dX4_relax_28 : decode cX4_relax 28 = .ok (.ldc 67, 2) := by decide +kernel
theorem dX4_relax_30 : decode cX4_relax 30 = .ok (.if_icmp .eq 20, 3) := by decide +kernel
theorem dX4_relax_33 : decode cX4_relax 33 = .ok (.aload_n 0, 1) := by decide +kernel
theorem dX4_relax_34 : decode cX4_relax 34 = .ok (.getfield 45, 3) := by decide +kernel
theorem dX4_relax_37 : decode cX4_relax 37 = .ok (.iload_n 2, 1) := by decide +kernel
theorem dX4_relax_38 : decode cX4_relax 38 = .ok (.iaload, 1) := by decide +kernel
theorem dX4_relax_39 : decode cX4_relax 39 = .ok (.iload_n 3, 1) := by decide +kernel
theorem dX4_relax_40 : decode cX4_relax 40 = .ok (.iadd, 1) := by decide +kernel
theorem dX4_relax_41 : decode cX4_relax 41 = .ok (.aload_n 0, 1) := by decide +kernel
theorem dX4_relax_42 : decode cX4_relax 42 = .ok (.getfield 45, 3) := by decide +kernel
theorem dX4_relax_45 : decode cX4_relax 45 = .ok (.iload_n 1, 1) := by decide +kernel
theorem dX4_relax_46 : decode cX4_relax 46 = .ok (.iaload, 1) := by decide +kernel
theorem dX4_relax_47 : decode cX4_relax 47 = .ok (.if_icmp .lt 5, 3) := by decide +kernel
theorem dX4_relax_50 : decode cX4_relax 50 = .ok (.iconst 0, 1) := by decide +kernel
theorem dX4_relax_51 : decode cX4_relax 51 = .ok (.ireturn, 1) := by decide +kernel
theorem dX4_relax_52 : decode cX4_relax 52 = .ok (.aload_n 0, 1) := by decide +kernel
theorem dX4_relax_53 : decode cX4_relax 53 = .ok (.getfield 45, 3) := by decide +kernel
theorem dX4_relax_56 : decode cX4_relax 56 = .ok (.iload_n 1, 1) := by decide +kernel
theorem dX4_relax_57 : decode cX4_relax 57 = .ok (.aload_n 0, 1) := by decide +kernel
theorem dX4_relax_58 : decode cX4_relax 58 = .ok (.getfield 45, 3) := by decide +kernel
theorem dX4_relax_61 : decode cX4_relax 61 = .ok (.iload_n 2, 1) := by decide +kernel
theorem dX4_relax_62 : decode cX4_relax 62 = .ok (.iaload, 1) := by decide +kernel
theorem dX4_relax_63 : decode cX4_relax 63 = .ok (.iload_n 3, 1) := by decide +kernel
theorem dX4_relax_64 : decode cX4_relax 64 = .ok (.iadd, 1) := by decide +kernel
theorem dX4_relax_65 : decode cX4_relax 65 = .ok (.iastore, 1) := by decide +kernel
theorem dX4_relax_66 : decode cX4_relax 66 = .ok (.aload_n 0, 1) := by decide +kernel
theorem dX4_relax_67 : decode cX4_relax 67 = .ok (.getfield 48, 3) := by decide +kernel
theorem dX4_relax_70 : decode cX4_relax 70 = .ok (.iload_n 1, 1) := by decide +kernel
theorem dX4_relax_71 : decode cX4_relax 71 = .ok (.iload_n 2, 1) := by decide +kernel
theorem dX4_relax_72 : decode cX4_relax 72 = .ok (.iastore, 1) := by decide +kernel
theorem dX4_relax_73 : decode cX4_relax 73 = .ok (.iconst 1, 1) := by decide +kernel
theorem dX4_relax_74 : decode cX4_relax 74 = .ok (.ireturn, 1) := by decide +kernel
theorem dX4_turnOver_0 : decode cX4_turnOver 0 = .ok (.iload_n 1, 1) := by decide +kernel
theorem dX4_turnOver_1 : decode cX4_turnOver 1 = .ok (.istore_n 3, 1) := by decide +kernel
theorem dX4_turnOver_2 : decode cX4_turnOver 2 = .ok (.iconst 0, 1) := by decide +kernel
theorem dX4_turnOver_3 : decode cX4_turnOver 3 = .ok (.istore 4, 2) := by decide +kernel
theorem dX4_turnOver_5 : decode cX4_turnOver 5 = .ok (.iload 4, 2) := by decide +kernel
theorem dX4_turnOver_7 : decode cX4_turnOver 7 = .ok (.bipush 50, 2) := by decide +kernel
theorem dX4_turnOver_9 : decode cX4_turnOver 9 = .ok (.if_icmp .ge 65, 3) := by decide +kernel
theorem dX4_turnOver_12 : decode cX4_turnOver 12 = .ok (.iload_n 3, 1) := by decide +kernel
theorem dX4_turnOver_13 : decode cX4_turnOver 13 = .ok (.iload_n 2, 1) := by decide +kernel
theorem dX4_turnOver_14 : decode cX4_turnOver 14 = .ok (.if_icmp .eq 60, 3) := by decide +kernel
theorem dX4_turnOver_17 : decode cX4_turnOver 17 = .ok (.aload_n 0, 1) := by decide +kernel
theorem dX4_turnOver_18 : decode cX4_turnOver 18 = .ok (.getfield 48, 3) := by decide +kernel
theorem dX4_turnOver_21 : decode cX4_turnOver 21 = .ok (.iload_n 3, 1) := by decide +kernel
theorem dX4_turnOver_22 : decode cX4_turnOver 22 = .ok (.invokestatic 83, 3) := by decide +kernel
theorem dX4_turnOver_25 : decode cX4_turnOver 25 = .ok (.istore 5, 2) := by decide +kernel
theorem dX4_turnOver_27 : decode cX4_turnOver 27 = .ok (.aload_n 0, 1) := by decide +kernel
theorem dX4_turnOver_28 : decode cX4_turnOver 28 = .ok (.getfield 33, 3) := by decide +kernel
theorem dX4_turnOver_31 : decode cX4_turnOver 31 = .ok (.iload_n 3, 1) := by decide +kernel
theorem dX4_turnOver_32 : decode cX4_turnOver 32 = .ok (.invokestatic 72, 3) := by decide +kernel
theorem dX4_turnOver_35 : decode cX4_turnOver 35 = .ok (.ifCond .eq 30, 3) := by decide +kernel
theorem dX4_turnOver_38 : decode cX4_turnOver 38 = .ok (.aload_n 0, 1) := by decide +kernel
theorem dX4_turnOver_39 : decode cX4_turnOver 39 = .ok (.getfield 29, 3) := by decide +kernel
theorem dX4_turnOver_42 : decode cX4_turnOver 42 = .ok (.iload 5, 2) := by decide +kernel
theorem dX4_turnOver_44 : decode cX4_turnOver 44 = .ok (.invokestatic 72, 3) := by decide +kernel
theorem dX4_turnOver_47 : decode cX4_turnOver 47 = .ok (.ifCond .eq 18, 3) := by decide +kernel
theorem dX4_turnOver_50 : decode cX4_turnOver 50 = .ok (.aload_n 0, 1) := by decide +kernel
theorem dX4_turnOver_51 : decode cX4_turnOver 51 = .ok (.getfield 42, 3) := by decide +kernel
theorem dX4_turnOver_54 : decode cX4_turnOver 54 = .ok (.iload_n 3, 1) := by decide +kernel
theorem dX4_turnOver_55 : decode cX4_turnOver 55 = .ok (.iconst (-1), 1) := by decide +kernel
theorem dX4_turnOver_56 : decode cX4_turnOver 56 = .ok (.iastore, 1) := by decide +kernel
theorem dX4_turnOver_57 : decode cX4_turnOver 57 = .ok (.aload_n 0, 1) := by decide +kernel
theorem dX4_turnOver_58 : decode cX4_turnOver 58 = .ok (.getfield 42, 3) := by decide +kernel
theorem dX4_turnOver_61 : decode cX4_turnOver 61 = .ok (.iload 5, 2) := by decide +kernel
theorem dX4_turnOver_63 : decode cX4_turnOver 63 = .ok (.iconst (-1), 1) := by decide +kernel
theorem dX4_turnOver_64 : decode cX4_turnOver 64 = .ok (.iastore, 1) := by decide +kernel
theorem dX4_turnOver_65 : decode cX4_turnOver 65 = .ok (.iload 5, 2) := by decide +kernel
theorem dX4_turnOver_67 : decode cX4_turnOver 67 = .ok (.istore_n 3, 1) := by decide +kernel
theorem dX4_turnOver_68 : decode cX4_turnOver 68 = .ok (.iinc 4 1, 3) := by decide +kernel
theorem dX4_turnOver_71 : decode cX4_turnOver 71 = .ok (.goto (-66), 3) := by decide +kernel
theorem dX4_turnOver_74 : decode cX4_turnOver 74 = .ok (.iload_n 1, 1) := by decide +kernel
theorem dX4_turnOver_75 : decode cX4_turnOver 75 = .ok (.istore_n 3, 1) := by decide +kernel
theorem dX4_turnOver_76 : decode cX4_turnOver 76 = .ok (.iconst 0, 1) := by decide +kernel
theorem dX4_turnOver_77 : decode cX4_turnOver 77 = .ok (.istore 4, 2) := by decide +kernel
theorem dX4_turnOver_79 : decode cX4_turnOver 79 = .ok (.iload 4, 2) := by decide +kernel
theorem dX4_turnOver_81 : decode cX4_turnOver 81 = .ok (.bipush 50, 2) := by decide +kernel
theorem dX4_turnOver_83 : decode cX4_turnOver 83 = .ok (.if_icmp .ge 57, 3) := by decide +kernel
theorem dX4_turnOver_86 : decode cX4_turnOver 86 = .ok (.iload_n 3, 1) := by decide +kernel
theorem dX4_turnOver_87 : decode cX4_turnOver 87 = .ok (.iload_n 2, 1) := by decide +kernel
theorem dX4_turnOver_88 : decode cX4_turnOver 88 = .ok (.if_icmp .eq 52, 3) := by decide +kernel
theorem dX4_turnOver_91 : decode cX4_turnOver 91 = .ok (.aload_n 0, 1) := by decide +kernel
theorem dX4_turnOver_92 : decode cX4_turnOver 92 = .ok (.getfield 48, 3) := by decide +kernel
theorem dX4_turnOver_95 : decode cX4_turnOver 95 = .ok (.iload_n 3, 1) := by decide +kernel
theorem dX4_turnOver_96 : decode cX4_turnOver 96 = .ok (.invokestatic 83, 3) := by decide +kernel
theorem dX4_turnOver_99 : decode cX4_turnOver 99 = .ok (.istore 5, 2) := by decide +kernel
theorem dX4_turnOver_101 : decode cX4_turnOver 101 = .ok (.aload_n 0, 1) := by decide +kernel
theorem dX4_turnOver_102 : decode cX4_turnOver 102 = .ok (.getfield 29, 3) := by decide +kernel
theorem dX4_turnOver_105 : decode cX4_turnOver 105 = .ok (.iload_n 3, 1) := by decide +kernel
theorem dX4_turnOver_106 : decode cX4_turnOver 106 = .ok (.invokestatic 72, 3) := by decide +kernel
theorem dX4_turnOver_109 : decode cX4_turnOver 109 = .ok (.ifCond .eq 22, 3) := by decide +kernel
theorem dX4_turnOver_112 : decode cX4_turnOver 112 = .ok (.aload_n 0, 1) := by decide +kernel
theorem dX4_turnOver_113 : decode cX4_turnOver 113 = .ok (.getfield 33, 3) := by decide +kernel
theorem dX4_turnOver_116 : decode cX4_turnOver 116 = .ok (.iload 5, 2) := by decide +kernel
theorem dX4_turnOver_118 : decode cX4_turnOver 118 = .ok (.invokestatic 72, 3) := by decide +kernel
theorem dX4_turnOver_121 : decode cX4_turnOver 121 = .ok (.ifCond .eq 10, 3) := by decide +kernel
theorem dX4_turnOver_124 : decode cX4_turnOver 124 = .ok (.aload_n 0, 1) := by decide +kernel
theorem dX4_turnOver_125 : decode cX4_turnOver 125 = .ok (.iload_n 3, 1) := by decide +kernel
theorem dX4_turnOver_126 : decode cX4_turnOver 126 = .ok (.iload 5, 2) := by decide +kernel
theorem dX4_turnOver_128 : decode cX4_turnOver 128 = .ok (.invokevirtual 93, 3) := by decide +kernel
theorem dX4_turnOver_131 : decode cX4_turnOver 131 = .ok (.iload 5, 2) := by decide +kernel
theorem dX4_turnOver_133 : decode cX4_turnOver 133 = .ok (.istore_n 3, 1) := by decide +kernel
theorem dX4_turnOver_134 : decode cX4_turnOver 134 = .ok (.iinc 4 1, 3) := by decide +kernel
theorem dX4_turnOver_137 : decode cX4_turnOver 137 = .ok (.goto (-58), 3) := by decide +kernel
theorem dX4_turnOver_140 : decode cX4_turnOver 140 = .ok (.return_, 1) := by decide +kernel
theorem dX4_tie_0 : decode cX4_tie 0 = .ok (.iload_n 1, 1) := by decide +kernel
theorem dX4_tie_1 : decode cX4_tie 1 = .ok (.ifCond .lt 33, 3) := by decide +kernel
theorem dX4_tie_4 : decode cX4_tie 4 = .ok (.iload_n 1, 1) := by decide +kernel
theorem dX4_tie_5 : decode cX4_tie 5 = .ok (.bipush 48, 2) := by decide +kernel
theorem dX4_tie_7 : decode cX4_tie 7 = .ok (.if_icmp .ge 27, 3) := by decide +kernel
theorem dX4_tie_10 : decode cX4_tie 10 = .ok (.iload_n 2, 1) := by decide +kernel
theorem dX4_tie_11 : decode cX4_tie 11 = .ok (.ifCond .lt 23, 3) := by decide +kernel
theorem dX4_tie_14 : decode cX4_tie 14 = .ok (.iload_n 2, 1) := by decide +kernel
theorem dX4_tie_15 : decode cX4_tie 15 = .ok (.bipush 48, 2) := by decide +kernel
theorem dX4_tie_17 : decode cX4_tie 17 = .ok (.if_icmp .ge 17, 3) := by decide +kernel
theorem dX4_tie_20 : decode cX4_tie 20 = .ok (.aload_n 0, 1) := by decide +kernel
theorem dX4_tie_21 : decode cX4_tie 21 = .ok (.getfield 42, 3) := by decide +kernel
theorem dX4_tie_24 : decode cX4_tie 24 = .ok (.iload_n 1, 1) := by decide +kernel
theorem dX4_tie_25 : decode cX4_tie 25 = .ok (.iload_n 2, 1) := by decide +kernel
theorem dX4_tie_26 : decode cX4_tie 26 = .ok (.iastore, 1) := by decide +kernel
theorem dX4_tie_27 : decode cX4_tie 27 = .ok (.aload_n 0, 1) := by decide +kernel
theorem dX4_tie_28 : decode cX4_tie 28 = .ok (.getfield 42, 3) := by decide +kernel
theorem dX4_tie_31 : decode cX4_tie 31 = .ok (.iload_n 2, 1) := by decide +kernel
theorem dX4_tie_32 : decode cX4_tie 32 = .ok (.iload_n 1, 1) := by decide +kernel
theorem dX4_tie_33 : decode cX4_tie 33 = .ok (.iastore, 1) := by decide +kernel
theorem dX4_tie_34 : decode cX4_tie 34 = .ok (.return_, 1) := by decide +kernel
theorem dX4_has_0 : decode cX4_has 0 = .ok (.iload_n 2, 1) := by decide +kernel
theorem dX4_has_1 : decode cX4_has 1 = .ok (.ifCond .lt 23, 3) := by decide +kernel
theorem dX4_has_4 : decode cX4_has 4 = .ok (.iload_n 2, 1) := by decide +kernel
theorem dX4_has_5 : decode cX4_has 5 = .ok (.bipush 48, 2) := by decide +kernel
theorem dX4_has_7 : decode cX4_has 7 = .ok (.if_icmp .ge 17, 3) := by decide +kernel
theorem dX4_has_10 : decode cX4_has 10 = .ok (.lload_n 0, 1) := by decide +kernel
theorem dX4_has_11 : decode cX4_has 11 = .ok (.iload_n 2, 1) := by decide +kernel
theorem dX4_has_12 : decode cX4_has 12 = .ok (.lshr, 1) := by decide +kernel
theorem dX4_has_13 : decode cX4_has 13 = .ok (.lconst 1, 1) := by decide +kernel
theorem dX4_has_14 : decode cX4_has 14 = .ok (.land, 1) := by decide +kernel
theorem dX4_has_15 : decode cX4_has 15 = .ok (.lconst 1, 1) := by decide +kernel
theorem dX4_has_16 : decode cX4_has 16 = .ok (.lcmp, 1) := by decide +kernel
theorem dX4_has_17 : decode cX4_has 17 = .ok (.ifCond .ne 7, 3) := by decide +kernel
theorem dX4_has_20 : decode cX4_has 20 = .ok (.iconst 1, 1) := by decide +kernel
theorem dX4_has_21 : decode cX4_has 21 = .ok (.goto 4, 3) := by decide +kernel
theorem dX4_has_24 : decode cX4_has 24 = .ok (.iconst 0, 1) := by decide +kernel
theorem dX4_has_25 : decode cX4_has 25 = .ok (.ireturn, 1) := by decide +kernel
theorem dX5_init_0 : decode cX5_init 0 = .ok (.aload_n 0, 1) := by decide +kernel
theorem dX5_init_1 : decode cX5_init 1 = .ok (.invokespecial 3, 3) := by decide +kernel
theorem dX5_init_4 : decode cX5_init 4 = .ok (.aload_n 0, 1) := by decide +kernel
theorem dX5_init_5 : decode cX5_init 5 = .ok (.iconst 0, 1) := by decide +kernel
theorem dX5_init_6 : decode cX5_init 6 = .ok (.putfield 9, 3) := by decide +kernel
theorem dX5_init_9 : decode cX5_init 9 = .ok (.aload_n 0, 1) := by decide +kernel
theorem dX5_init_10 : decode cX5_init 10 = .ok (.bipush 60, 2) := by decide +kernel
theorem dX5_init_12 : decode cX5_init 12 = .ok (.newarray .int, 2) := by decide +kernel
theorem dX5_init_14 : decode cX5_init 14 = .ok (.putfield 15, 3) := by decide +kernel
theorem dX5_init_17 : decode cX5_init 17 = .ok (.aload_n 0, 1) := by decide +kernel
theorem dX5_init_18 : decode cX5_init 18 = .ok (.bipush 60, 2) := by decide +kernel
theorem dX5_init_20 : decode cX5_init 20 = .ok (.newarray .int, 2) := by decide +kernel
theorem dX5_init_22 : decode cX5_init 22 = .ok (.putfield 19, 3) := by decide +kernel
theorem dX5_init_25 : decode cX5_init 25 = .ok (.aload_n 0, 1) := by decide +kernel
theorem dX5_init_26 : decode cX5_init 26 = .ok (.bipush 60, 2) := by decide +kernel
theorem dX5_init_28 : decode cX5_init 28 = .ok (.newarray .int, 2) := by decide +kernel
theorem dX5_init_30 : decode cX5_init 30 = .ok (.putfield 22, 3) := by decide +kernel
theorem dX5_init_33 : decode cX5_init 33 = .ok (.aload_n 0, 1) := by decide +kernel
theorem dX5_init_34 : decode cX5_init 34 = .ok (.bipush 60, 2) := by decide +kernel
theorem dX5_init_36 : decode cX5_init 36 = .ok (.newarray .int, 2) := by decide +kernel
theorem dX5_init_38 : decode cX5_init 38 = .ok (.putfield 25, 3) := by decide +kernel
theorem dX5_init_41 : decode cX5_init 41 = .ok (.return_, 1) := by decide +kernel
theorem dX5_tell_0 : decode cX5_tell 0 = .ok (.iload_n 2, 1) := by decide +kernel
theorem dX5_tell_1 : decode cX5_tell 1 = .ok (.ifCond .lt 31, 3) := by decide +kernel
theorem dX5_tell_4 : decode cX5_tell 4 = .ok (.iload_n 2, 1) := by decide +kernel
theorem dX5_tell_5 : decode cX5_tell 5 = .ok (.sipush 999, 3) := by decide +kernel
theorem dX5_tell_8 : decode cX5_tell 8 = .ok (.if_icmp .gt 24, 3) := by decide +kernel
theorem dX5_tell_11 : decode cX5_tell 11 = .ok (.iload_n 3, 1) := by decide +kernel
theorem dX5_tell_12 : decode cX5_tell 12 = .ok (.bipush (-99), 2) := by decide +kernel
theorem dX5_tell_14 : decode cX5_tell 14 = .ok (.if_icmp .lt 18, 3) := by decide +kernel
theorem dX5_tell_17 : decode cX5_tell 17 = .ok (.iload_n 3, 1) := by decide +kernel
theorem dX5_tell_18 : decode cX5_tell 18 = .ok (.bipush 99, 2) := by decide +kernel
theorem dX5_tell_20 : decode cX5_tell 20 = .ok (.if_icmp .gt 12, 3) := by decide +kernel
theorem dX5_tell_23 : decode cX5_tell 23 = .ok (.aload_n 0, 1) := by decide +kernel
theorem dX5_tell_24 : decode cX5_tell 24 = .ok (.getfield 9, 3) := by decide +kernel
theorem dX5_tell_27 : decode cX5_tell 27 = .ok (.bipush 60, 2) := by decide +kernel
theorem dX5_tell_29 : decode cX5_tell 29 = .ok (.if_icmp .lt 5, 3) := by decide +kernel
theorem dX5_tell_32 : decode cX5_tell 32 = .ok (.iconst 0, 1) := by decide +kernel
theorem dX5_tell_33 : decode cX5_tell 33 = .ok (.ireturn, 1) := by decide +kernel
theorem dX5_tell_34 : decode cX5_tell 34 = .ok (.aload_n 0, 1) := by decide +kernel
theorem dX5_tell_35 : decode cX5_tell 35 = .ok (.getfield 15, 3) := by decide +kernel
theorem dX5_tell_38 : decode cX5_tell 38 = .ok (.aload_n 0, 1) := by decide +kernel
theorem dX5_tell_39 : decode cX5_tell 39 = .ok (.getfield 9, 3) := by decide +kernel
theorem dX5_tell_42 : decode cX5_tell 42 = .ok (.iload_n 1, 1) := by decide +kernel
theorem dX5_tell_43 : decode cX5_tell 43 = .ok (.iastore, 1) := by decide +kernel
theorem dX5_tell_44 : decode cX5_tell 44 = .ok (.aload_n 0, 1) := by decide +kernel
theorem dX5_tell_45 : decode cX5_tell 45 = .ok (.getfield 19, 3) := by decide +kernel
theorem dX5_tell_48 : decode cX5_tell 48 = .ok (.aload_n 0, 1) := by decide +kernel
theorem dX5_tell_49 : decode cX5_tell 49 = .ok (.getfield 9, 3) := by decide +kernel
theorem dX5_tell_52 : decode cX5_tell 52 = .ok (.iload_n 2, 1) := by decide +kernel
theorem dX5_tell_53 : decode cX5_tell 53 = .ok (.iastore, 1) := by decide +kernel
theorem dX5_tell_54 : decode cX5_tell 54 = .ok (.aload_n 0, 1) := by decide +kernel
theorem dX5_tell_55 : decode cX5_tell 55 = .ok (.getfield 22, 3) := by decide +kernel
theorem dX5_tell_58 : decode cX5_tell 58 = .ok (.aload_n 0, 1) := by decide +kernel
theorem dX5_tell_59 : decode cX5_tell 59 = .ok (.getfield 9, 3) := by decide +kernel
theorem dX5_tell_62 : decode cX5_tell 62 = .ok (.iload_n 3, 1) := by decide +kernel
theorem dX5_tell_63 : decode cX5_tell 63 = .ok (.iastore, 1) := by decide +kernel
theorem dX5_tell_64 : decode cX5_tell 64 = .ok (.aload_n 0, 1) := by decide +kernel
theorem dX5_tell_65 : decode cX5_tell 65 = .ok (.getfield 25, 3) := by decide +kernel
theorem dX5_tell_68 : decode cX5_tell 68 = .ok (.aload_n 0, 1) := by decide +kernel
theorem dX5_tell_69 : decode cX5_tell 69 = .ok (.getfield 9, 3) := by decide +kernel
theorem dX5_tell_72 : decode cX5_tell 72 = .ok (.iload 4, 2) := by decide +kernel
theorem dX5_tell_74 : decode cX5_tell 74 = .ok (.iastore, 1) := by decide +kernel
theorem dX5_tell_75 : decode cX5_tell 75 = .ok (.aload_n 0, 1) := by decide +kernel
theorem dX5_tell_76 : decode cX5_tell 76 = .ok (.dup, 1) := by decide +kernel
theorem dX5_tell_77 : decode cX5_tell 77 = .ok (.getfield 9, 3) := by decide +kernel
theorem dX5_tell_80 : decode cX5_tell 80 = .ok (.iconst 1, 1) := by decide +kernel
theorem dX5_tell_81 : decode cX5_tell 81 = .ok (.iadd, 1) := by decide +kernel
theorem dX5_tell_82 : decode cX5_tell 82 = .ok (.putfield 9, 3) := by decide +kernel
theorem dX5_tell_85 : decode cX5_tell 85 = .ok (.iconst 1, 1) := by decide +kernel
theorem dX5_tell_86 : decode cX5_tell 86 = .ok (.ireturn, 1) := by decide +kernel
theorem dX5_measure_0 : decode cX5_measure 0 = .ok (.aload_n 0, 1) := by decide +kernel
theorem dX5_measure_1 : decode cX5_measure 1 = .ok (.iconst 0, 1) := by decide +kernel
theorem dX5_measure_2 : decode cX5_measure 2 = .ok (.putfield 28, 3) := by decide +kernel
theorem dX5_measure_5 : decode cX5_measure 5 = .ok (.aload_n 0, 1) := by decide +kernel
theorem dX5_measure_6 : decode cX5_measure 6 = .ok (.iconst (-1), 1) := by decide +kernel
theorem dX5_measure_7 : decode cX5_measure 7 = .ok (.putfield 31, 3) := by decide +kernel
theorem dX5_measure_10 : decode cX5_measure 10 = .ok (.aload_n 0, 1) := by decide +kernel
theorem dX5_measure_11 : decode cX5_measure 11 = .ok (.iconst (-1), 1) := by decide +kernel
theorem dX5_measure_12 : decode cX5_measure 12 = .ok (.putfield 34, 3) := by decide +kernel
theorem dX5_measure_15 : decode cX5_measure 15 = .ok (.iconst 0, 1) := by decide +kernel
theorem dX5_measure_16 : decode cX5_measure 16 = .ok (.istore_n 3, 1) := by decide +kernel
theorem dX5_measure_17 : decode cX5_measure 17 = .ok (.iload_n 3, 1) := by decide +kernel
theorem dX5_measure_18 : decode cX5_measure 18 = .ok (.aload_n 0, 1) := by decide +kernel
theorem dX5_measure_19 : decode cX5_measure 19 = .ok (.getfield 9, 3) := by decide +kernel
theorem dX5_measure_22 : decode cX5_measure 22 = .ok (.if_icmp .ge 119, 3) := by decide +kernel
theorem dX5_measure_25 : decode cX5_measure 25 = .ok (.iload_n 3, 1) := by decide +kernel
theorem dX5_measure_26 : decode cX5_measure 26 = .ok (.bipush 60, 2) := by decide +kernel
theorem dX5_measure_28 : decode cX5_measure 28 = .ok (.if_icmp .ge 113, 3) := by decide +kernel
theorem dX5_measure_31 : decode cX5_measure 31 = .ok (.aload_n 0, 1) := by decide +kernel
theorem dX5_measure_32 : decode cX5_measure 32 = .ok (.getfield 15, 3) := by decide +kernel
theorem dX5_measure_35 : decode cX5_measure 35 = .ok (.iload_n 3, 1) := by decide +kernel
theorem dX5_measure_36 : decode cX5_measure 36 = .ok (.iaload, 1) := by decide +kernel
theorem dX5_measure_37 : decode cX5_measure 37 = .ok (.iload_n 1, 1) := by decide +kernel
theorem dX5_measure_38 : decode cX5_measure 38 = .ok (.if_icmp .ne 97, 3) := by decide +kernel
theorem dX5_measure_41 : decode cX5_measure 41 = .ok (.aload_n 0, 1) := by decide +kernel
theorem dX5_measure_42 : decode cX5_measure 42 = .ok (.getfield 25, 3) := by decide +kernel
theorem dX5_measure_45 : decode cX5_measure 45 = .ok (.iload_n 3, 1) := by decide +kernel
theorem dX5_measure_46 : decode cX5_measure 46 = .ok (.iaload, 1) := by decide +kernel
theorem dX5_measure_47 : decode cX5_measure 47 = .ok (.iload_n 2, 1) := by decide +kernel
theorem dX5_measure_48 : decode cX5_measure 48 = .ok (.if_icmp .gt 87, 3) := by decide +kernel
theorem dX5_measure_51 : decode cX5_measure 51 = .ok (.aload_n 0, 1) := by decide +kernel
theorem dX5_measure_52 : decode cX5_measure 52 = .ok (.iload_n 3, 1) := by decide +kernel
theorem dX5_measure_53 : decode cX5_measure 53 = .ok (.iload_n 2, 1) := by decide +kernel
theorem dX5_measure_54 : decode cX5_measure 54 = .ok (.invokevirtual 37, 3) := by decide +kernel
theorem dX5_measure_57 : decode cX5_measure 57 = .ok (.ifCond .eq 6, 3) := by decide +kernel
theorem dX5_measure_60 : decode cX5_measure 60 = .ok (.goto 75, 3) := by decide +kernel
theorem dX5_measure_63 : decode cX5_measure 63 = .ok (.aload_n 0, 1) := by decide +kernel
theorem dX5_measure_64 : decode cX5_measure 64 = .ok (.dup, 1) := by decide +kernel
theorem dX5_measure_65 : decode cX5_measure 65 = .ok (.getfield 28, 3) := by decide +kernel
theorem dX5_measure_68 : decode cX5_measure 68 = .ok (.iconst 1, 1) := by decide +kernel
theorem dX5_measure_69 : decode cX5_measure 69 = .ok (.iadd, 1) := by decide +kernel
theorem dX5_measure_70 : decode cX5_measure 70 = .ok (.putfield 28, 3) := by decide +kernel
theorem dX5_measure_73 : decode cX5_measure 73 = .ok (.aload_n 0, 1) := by decide +kernel
theorem dX5_measure_74 : decode cX5_measure 74 = .ok (.getfield 31, 3) := by decide +kernel
theorem dX5_measure_77 : decode cX5_measure 77 = .ok (.iconst (-1), 1) := by decide +kernel
theorem dX5_measure_78 : decode cX5_measure 78 = .ok (.if_icmp .eq 21, 3) := by decide +kernel
theorem dX5_measure_81 : decode cX5_measure 81 = .ok (.aload_n 0, 1) := by decide +kernel
theorem dX5_measure_82 : decode cX5_measure 82 = .ok (.getfield 19, 3) := by decide +kernel
theorem dX5_measure_85 : decode cX5_measure 85 = .ok (.iload_n 3, 1) := by decide +kernel
theorem dX5_measure_86 : decode cX5_measure 86 = .ok (.iaload, 1) := by decide +kernel
theorem dX5_measure_87 : decode cX5_measure 87 = .ok (.aload_n 0, 1) := by decide +kernel
theorem dX5_measure_88 : decode cX5_measure 88 = .ok (.getfield 19, 3) := by decide +kernel
theorem dX5_measure_91 : decode cX5_measure 91 = .ok (.aload_n 0, 1) := by decide +kernel
theorem dX5_measure_92 : decode cX5_measure 92 = .ok (.getfield 31, 3) := by decide +kernel
theorem dX5_measure_95 : decode cX5_measure 95 = .ok (.iaload, 1) := by decide +kernel
theorem dX5_measure_96 : decode cX5_measure 96 = .ok (.if_icmp .ge 8, 3) := by decide +kernel
theorem dX5_measure_99 : decode cX5_measure 99 = .ok (.aload_n 0, 1) := by decide +kernel
theorem dX5_measure_100 : decode cX5_measure 100 = .ok (.iload_n 3, 1) := by decide +kernel
theorem dX5_measure_101 : decode cX5_measure 101 = .ok (.putfield 31, 3) := by decide +kernel
theorem dX5_measure_104 : decode cX5_measure 104 = .ok (.aload_n 0, 1) := by decide +kernel
theorem dX5_measure_105 : decode cX5_measure 105 = .ok (.getfield 34, 3) := by decide +kernel
theorem dX5_measure_108 : decode cX5_measure 108 = .ok (.iconst (-1), 1) := by decide +kernel
theorem dX5_measure_109 : decode cX5_measure 109 = .ok (.if_icmp .eq 21, 3) := by decide +kernel
theorem dX5_measure_112 : decode cX5_measure 112 = .ok (.aload_n 0, 1) := by decide +kernel
theorem dX5_measure_113 : decode cX5_measure 113 = .ok (.getfield 19, 3) := by decide +kernel
theorem dX5_measure_116 : decode cX5_measure 116 = .ok (.iload_n 3, 1) := by decide +kernel
theorem dX5_measure_117 : decode cX5_measure 117 = .ok (.iaload, 1) := by decide +kernel
theorem dX5_measure_118 : decode cX5_measure 118 = .ok (.aload_n 0, 1) := by decide +kernel
theorem dX5_measure_119 : decode cX5_measure 119 = .ok (.getfield 19, 3) := by decide +kernel
theorem dX5_measure_122 : decode cX5_measure 122 = .ok (.aload_n 0, 1) := by decide +kernel
theorem dX5_measure_123 : decode cX5_measure 123 = .ok (.getfield 34, 3) := by decide +kernel
theorem dX5_measure_126 : decode cX5_measure 126 = .ok (.iaload, 1) := by decide +kernel
theorem dX5_measure_127 : decode cX5_measure 127 = .ok (.if_icmp .le 8, 3) := by decide +kernel
theorem dX5_measure_130 : decode cX5_measure 130 = .ok (.aload_n 0, 1) := by decide +kernel
theorem dX5_measure_131 : decode cX5_measure 131 = .ok (.iload_n 3, 1) := by decide +kernel
theorem dX5_measure_132 : decode cX5_measure 132 = .ok (.putfield 34, 3) := by decide +kernel
theorem dX5_measure_135 : decode cX5_measure 135 = .ok (.iinc 3 1, 3) := by decide +kernel
theorem dX5_measure_138 : decode cX5_measure 138 = .ok (.goto (-121), 3) := by decide +kernel
theorem dX5_measure_141 : decode cX5_measure 141 = .ok (.aload_n 0, 1) := by decide +kernel
theorem dX5_measure_142 : decode cX5_measure 142 = .ok (.getfield 28, 3) := by decide +kernel
theorem dX5_measure_145 : decode cX5_measure 145 = .ok (.iconst 2, 1) := by decide +kernel
theorem dX5_measure_146 : decode cX5_measure 146 = .ok (.if_icmp .lt 7, 3) := by decide +kernel
theorem dX5_measure_149 : decode cX5_measure 149 = .ok (.aload_n 0, 1) := by decide +kernel
theorem dX5_measure_150 : decode cX5_measure 150 = .ok (.invokevirtual 41, 3) := by decide +kernel
theorem dX5_measure_153 : decode cX5_measure 153 = .ok (.return_, 1) := by decide +kernel
theorem dX5_isToldAnew_0 : decode cX5_isToldAnew 0 = .ok (.iload_n 1, 1) := by decide +kernel
theorem dX5_isToldAnew_1 : decode cX5_isToldAnew 1 = .ok (.iconst 1, 1) := by decide +kernel
theorem dX5_isToldAnew_2 : decode cX5_isToldAnew 2 = .ok (.iadd, 1) := by decide +kernel
theorem dX5_isToldAnew_3 : decode cX5_isToldAnew 3 = .ok (.istore_n 3, 1) := by decide +kernel
theorem dX5_isToldAnew_4 : decode cX5_isToldAnew 4 = .ok (.iload_n 3, 1) := by decide +kernel
theorem dX5_isToldAnew_5 : decode cX5_isToldAnew 5 = .ok (.aload_n 0, 1) := by decide +kernel
theorem dX5_isToldAnew_6 : decode cX5_isToldAnew 6 = .ok (.getfield 9, 3) := by decide +kernel
theorem dX5_isToldAnew_9 : decode cX5_isToldAnew 9 = .ok (.if_icmp .ge 57, 3) := by decide +kernel
theorem dX5_isToldAnew_12 : decode cX5_isToldAnew 12 = .ok (.iload_n 3, 1) := by decide +kernel
theorem dX5_isToldAnew_13 : decode cX5_isToldAnew 13 = .ok (.bipush 60, 2) := by decide +kernel
theorem dX5_isToldAnew_15 : decode cX5_isToldAnew 15 = .ok (.if_icmp .ge 51, 3) := by decide +kernel
theorem dX5_isToldAnew_18 : decode cX5_isToldAnew 18 = .ok (.aload_n 0, 1) := by decide +kernel
theorem dX5_isToldAnew_19 : decode cX5_isToldAnew 19 = .ok (.getfield 15, 3) := by decide +kernel
theorem dX5_isToldAnew_22 : decode cX5_isToldAnew 22 = .ok (.iload_n 3, 1) := by decide +kernel
theorem dX5_isToldAnew_23 : decode cX5_isToldAnew 23 = .ok (.iaload, 1) := by decide +kernel
theorem dX5_isToldAnew_24 : decode cX5_isToldAnew 24 = .ok (.aload_n 0, 1) := by decide +kernel
theorem dX5_isToldAnew_25 : decode cX5_isToldAnew 25 = .ok (.getfield 15, 3) := by decide +kernel
theorem dX5_isToldAnew_28 : decode cX5_isToldAnew 28 = .ok (.iload_n 1, 1) := by decide +kernel
theorem dX5_isToldAnew_29 : decode cX5_isToldAnew 29 = .ok (.iaload, 1) := by decide +kernel
theorem dX5_isToldAnew_30 : decode cX5_isToldAnew 30 = .ok (.if_icmp .ne 30, 3) := by decide +kernel
theorem dX5_isToldAnew_33 : decode cX5_isToldAnew 33 = .ok (.aload_n 0, 1) := by decide +kernel
theorem dX5_isToldAnew_34 : decode cX5_isToldAnew 34 = .ok (.getfield 19, 3) := by decide +kernel
theorem dX5_isToldAnew_37 : decode cX5_isToldAnew 37 = .ok (.iload_n 3, 1) := by decide +kernel
theorem dX5_isToldAnew_38 : decode cX5_isToldAnew 38 = .ok (.iaload, 1) := by decide +kernel
theorem dX5_isToldAnew_39 : decode cX5_isToldAnew 39 = .ok (.aload_n 0, 1) := by decide +kernel
theorem dX5_isToldAnew_40 : decode cX5_isToldAnew 40 = .ok (.getfield 19, 3) := by decide +kernel
theorem dX5_isToldAnew_43 : decode cX5_isToldAnew 43 = .ok (.iload_n 1, 1) := by decide +kernel
theorem dX5_isToldAnew_44 : decode cX5_isToldAnew 44 = .ok (.iaload, 1) := by decide +kernel
theorem dX5_isToldAnew_45 : decode cX5_isToldAnew 45 = .ok (.if_icmp .ne 15, 3) := by decide +kernel
theorem dX5_isToldAnew_48 : decode cX5_isToldAnew 48 = .ok (.aload_n 0, 1) := by decide +kernel
theorem dX5_isToldAnew_49 : decode cX5_isToldAnew 49 = .ok (.getfield 25, 3) := by decide +kernel
theorem dX5_isToldAnew_52 : decode cX5_isToldAnew 52 = .ok (.iload_n 3, 1) := by decide +kernel
theorem dX5_isToldAnew_53 : decode cX5_isToldAnew 53 = .ok (.iaload, 1) := by decide +kernel
theorem dX5_isToldAnew_54 : decode cX5_isToldAnew 54 = .ok (.iload_n 2, 1) := by decide +kernel
theorem dX5_isToldAnew_55 : decode cX5_isToldAnew 55 = .ok (.if_icmp .gt 5, 3) := by decide +kernel
theorem dX5_isToldAnew_58 : decode cX5_isToldAnew 58 = .ok (.iconst 1, 1) := by decide +kernel
theorem dX5_isToldAnew_59 : decode cX5_isToldAnew 59 = .ok (.ireturn, 1) := by decide +kernel
theorem dX5_isToldAnew_60 : decode cX5_isToldAnew 60 = .ok (.iinc 3 1, 3) := by decide +kernel
theorem dX5_isToldAnew_63 : decode cX5_isToldAnew 63 = .ok (.goto (-59), 3) := by decide +kernel
theorem dX5_isToldAnew_66 : decode cX5_isToldAnew 66 = .ok (.iconst 0, 1) := by decide +kernel
theorem dX5_isToldAnew_67 : decode cX5_isToldAnew 67 = .ok (.ireturn, 1) := by decide +kernel
theorem dX5_findRate_0 : decode cX5_findRate 0 = .ok (.aload_n 0, 1) := by decide +kernel
theorem dX5_findRate_1 : decode cX5_findRate 1 = .ok (.aload_n 0, 1) := by decide +kernel
theorem dX5_findRate_2 : decode cX5_findRate 2 = .ok (.getfield 22, 3) := by decide +kernel
theorem dX5_findRate_5 : decode cX5_findRate 5 = .ok (.aload_n 0, 1) := by decide +kernel
theorem dX5_findRate_6 : decode cX5_findRate 6 = .ok (.getfield 34, 3) := by decide +kernel
theorem dX5_findRate_9 : decode cX5_findRate 9 = .ok (.invokestatic 44, 3) := by decide +kernel
theorem dX5_findRate_12 : decode cX5_findRate 12 = .ok (.aload_n 0, 1) := by decide +kernel
theorem dX5_findRate_13 : decode cX5_findRate 13 = .ok (.getfield 22, 3) := by decide +kernel
theorem dX5_findRate_16 : decode cX5_findRate 16 = .ok (.aload_n 0, 1) := by decide +kernel
theorem dX5_findRate_17 : decode cX5_findRate 17 = .ok (.getfield 31, 3) := by decide +kernel
theorem dX5_findRate_20 : decode cX5_findRate 20 = .ok (.invokestatic 44, 3) := by decide +kernel
theorem dX5_findRate_23 : decode cX5_findRate 23 = .ok (.isub, 1) := by decide +kernel
theorem dX5_findRate_24 : decode cX5_findRate 24 = .ok (.putfield 48, 3) := by decide +kernel
theorem dX5_findRate_27 : decode cX5_findRate 27 = .ok (.aload_n 0, 1) := by decide +kernel
theorem dX5_findRate_28 : decode cX5_findRate 28 = .ok (.aload_n 0, 1) := by decide +kernel
theorem dX5_findRate_29 : decode cX5_findRate 29 = .ok (.getfield 19, 3) := by decide +kernel
theorem dX5_findRate_32 : decode cX5_findRate 32 = .ok (.aload_n 0, 1) := by decide +kernel
theorem dX5_findRate_33 : decode cX5_findRate 33 = .ok (.getfield 34, 3) := by decide +kernel
theorem dX5_findRate_36 : decode cX5_findRate 36 = .ok (.invokestatic 44, 3) := by decide +kernel
theorem dX5_findRate_39 : decode cX5_findRate 39 = .ok (.aload_n 0, 1) := by decide +kernel
theorem dX5_findRate_40 : decode cX5_findRate 40 = .ok (.getfield 19, 3) := by decide +kernel
theorem dX5_findRate_43 : decode cX5_findRate 43 = .ok (.aload_n 0, 1) := by decide +kernel
theorem dX5_findRate_44 : decode cX5_findRate 44 = .ok (.getfield 31, 3) := by decide +kernel
theorem dX5_findRate_47 : decode cX5_findRate 47 = .ok (.invokestatic 44, 3) := by decide +kernel
theorem dX5_findRate_50 : decode cX5_findRate 50 = .ok (.isub, 1) := by decide +kernel
theorem dX5_findRate_51 : decode cX5_findRate 51 = .ok (.putfield 51, 3) := by decide +kernel
theorem dX5_findRate_54 : decode cX5_findRate 54 = .ok (.aload_n 0, 1) := by decide +kernel
theorem dX5_findRate_55 : decode cX5_findRate 55 = .ok (.getfield 48, 3) := by decide +kernel
theorem dX5_findRate_58 : decode cX5_findRate 58 = .ok (.invokestatic 54, 3) := by decide +kernel
theorem dX5_findRate_61 : decode cX5_findRate 61 = .ok (.istore_n 1, 1) := by decide +kernel
theorem dX5_findRate_62 : decode cX5_findRate 62 = .ok (.aload_n 0, 1) := by decide +kernel
theorem dX5_findRate_63 : decode cX5_findRate 63 = .ok (.getfield 51, 3) := by decide +kernel
theorem dX5_findRate_66 : decode cX5_findRate 66 = .ok (.istore_n 2, 1) := by decide +kernel
theorem dX5_findRate_67 : decode cX5_findRate 67 = .ok (.iconst 0, 1) := by decide +kernel
theorem dX5_findRate_68 : decode cX5_findRate 68 = .ok (.istore_n 3, 1) := by decide +kernel
theorem dX5_findRate_69 : decode cX5_findRate 69 = .ok (.iload_n 3, 1) := by decide +kernel
theorem dX5_findRate_70 : decode cX5_findRate 70 = .ok (.bipush 64, 2) := by decide +kernel
theorem dX5_findRate_72 : decode cX5_findRate 72 = .ok (.if_icmp .ge 23, 3) := by decide +kernel
theorem dX5_findRate_75 : decode cX5_findRate 75 = .ok (.iload_n 1, 1) := by decide +kernel
theorem dX5_findRate_76 : decode cX5_findRate 76 = .ok (.ifCond .eq 19, 3) := by decide +kernel
theorem dX5_findRate_79 : decode cX5_findRate 79 = .ok (.iload_n 2, 1) := by decide +kernel
theorem dX5_findRate_80 : decode cX5_findRate 80 = .ok (.iload_n 1, 1) := by decide +kernel
theorem dX5_findRate_81 : decode cX5_findRate 81 = .ok (.irem, 1) := by decide +kernel
theorem dX5_findRate_82 : decode cX5_findRate 82 = .ok (.istore 4, 2) := by decide +kernel
theorem dX5_findRate_84 : decode cX5_findRate 84 = .ok (.iload_n 1, 1) := by decide +kernel
theorem dX5_findRate_85 : decode cX5_findRate 85 = .ok (.istore_n 2, 1) := by decide +kernel
theorem dX5_findRate_86 : decode cX5_findRate 86 = .ok (.iload 4, 2) := by decide +kernel
theorem dX5_findRate_88 : decode cX5_findRate 88 = .ok (.istore_n 1, 1) := by decide +kernel
theorem dX5_findRate_89 : decode cX5_findRate 89 = .ok (.iinc 3 1, 3) := by decide +kernel
theorem dX5_findRate_92 : decode cX5_findRate 92 = .ok (.goto (-23), 3) := by decide +kernel
theorem dX5_findRate_95 : decode cX5_findRate 95 = .ok (.iload_n 2, 1) := by decide +kernel
theorem dX5_findRate_96 : decode cX5_findRate 96 = .ok (.ifCond .le 23, 3) := by decide +kernel
theorem dX5_findRate_99 : decode cX5_findRate 99 = .ok (.aload_n 0, 1) := by decide +kernel
theorem dX5_findRate_100 : decode cX5_findRate 100 = .ok (.dup, 1) := by decide +kernel
theorem dX5_findRate_101 : decode cX5_findRate 101 = .ok (.getfield 48, 3) := by decide +kernel
theorem dX5_findRate_104 : decode cX5_findRate 104 = .ok (.iload_n 2, 1) := by decide +kernel
theorem dX5_findRate_105 : decode cX5_findRate 105 = .ok (.idiv, 1) := by decide +kernel
theorem dX5_findRate_106 : decode cX5_findRate 106 = .ok (.putfield 48, 3) := by decide +kernel
theorem dX5_findRate_109 : decode cX5_findRate 109 = .ok (.aload_n 0, 1) := by decide +kernel
theorem dX5_findRate_110 : decode cX5_findRate 110 = .ok (.dup, 1) := by decide +kernel
theorem dX5_findRate_111 : decode cX5_findRate 111 = .ok (.getfield 51, 3) := by decide +kernel
theorem dX5_findRate_114 : decode cX5_findRate 114 = .ok (.iload_n 2, 1) := by decide +kernel
theorem dX5_findRate_115 : decode cX5_findRate 115 = .ok (.idiv, 1) := by decide +kernel
theorem dX5_findRate_116 : decode cX5_findRate 116 = .ok (.putfield 51, 3) := by decide +kernel
theorem dX5_findRate_119 : decode cX5_findRate 119 = .ok (.return_, 1) := by decide +kernel
theorem dX5_measured_0 : decode cX5_measured 0 = .ok (.iload_n 1, 1) := by decide +kernel
theorem dX5_measured_1 : decode cX5_measured 1 = .ok (.ifCond .ne 8, 3) := by decide +kernel
theorem dX5_measured_4 : decode cX5_measured 4 = .ok (.aload_n 0, 1) := by decide +kernel
theorem dX5_measured_5 : decode cX5_measured 5 = .ok (.getfield 28, 3) := by decide +kernel
theorem dX5_measured_8 : decode cX5_measured 8 = .ok (.ireturn, 1) := by decide +kernel
theorem dX5_measured_9 : decode cX5_measured 9 = .ok (.aload_n 0, 1) := by decide +kernel
theorem dX5_measured_10 : decode cX5_measured 10 = .ok (.getfield 34, 3) := by decide +kernel
theorem dX5_measured_13 : decode cX5_measured 13 = .ok (.ifCond .lt 25, 3) := by decide +kernel
theorem dX5_measured_16 : decode cX5_measured 16 = .ok (.aload_n 0, 1) := by decide +kernel
theorem dX5_measured_17 : decode cX5_measured 17 = .ok (.getfield 34, 3) := by decide +kernel
theorem dX5_measured_20 : decode cX5_measured 20 = .ok (.bipush 60, 2) := by decide +kernel
theorem dX5_measured_22 : decode cX5_measured 22 = .ok (.if_icmp .ge 16, 3) := by decide +kernel
theorem dX5_measured_25 : decode cX5_measured 25 = .ok (.aload_n 0, 1) := by decide +kernel
theorem dX5_measured_26 : decode cX5_measured 26 = .ok (.getfield 28, 3) := by decide +kernel
theorem dX5_measured_29 : decode cX5_measured 29 = .ok (.iconst 2, 1) := by decide +kernel
theorem dX5_measured_30 : decode cX5_measured 30 = .ok (.if_icmp .ge 12, 3) := by decide +kernel
theorem dX5_measured_33 : decode cX5_measured 33 = .ok (.iload_n 1, 1) := by decide +kernel
theorem dX5_measured_34 : decode cX5_measured 34 = .ok (.iconst 2, 1) := by decide +kernel
theorem dX5_measured_35 : decode cX5_measured 35 = .ok (.if_icmp .le 7, 3) := by decide +kernel
theorem dX5_measured_38 : decode cX5_measured 38 = .ok (.sipush (-1000), 3) := by decide +kernel
theorem dX5_measured_41 : decode cX5_measured 41 = .ok (.ireturn, 1) := by decide +kernel
theorem dX5_measured_42 : decode cX5_measured 42 = .ok (.iload_n 1, 1) := by decide +kernel
theorem dX5_measured_43 : decode cX5_measured 43 = .ok (.tableswitch 59 1 4 #[29, 39, 49, 54], 29) := by decide +kernel
theorem dX5_measured_72 : decode cX5_measured 72 = .ok (.aload_n 0, 1) := by decide +kernel
theorem dX5_measured_73 : decode cX5_measured 73 = .ok (.getfield 19, 3) := by decide +kernel
theorem dX5_measured_76 : decode cX5_measured 76 = .ok (.aload_n 0, 1) := by decide +kernel
theorem dX5_measured_77 : decode cX5_measured 77 = .ok (.getfield 34, 3) := by decide +kernel
theorem dX5_measured_80 : decode cX5_measured 80 = .ok (.iaload, 1) := by decide +kernel
theorem dX5_measured_81 : decode cX5_measured 81 = .ok (.ireturn, 1) := by decide +kernel
theorem dX5_measured_82 : decode cX5_measured 82 = .ok (.aload_n 0, 1) := by decide +kernel
theorem dX5_measured_83 : decode cX5_measured 83 = .ok (.getfield 22, 3) := by decide +kernel
theorem dX5_measured_86 : decode cX5_measured 86 = .ok (.aload_n 0, 1) := by decide +kernel
theorem dX5_measured_87 : decode cX5_measured 87 = .ok (.getfield 34, 3) := by decide +kernel
theorem dX5_measured_90 : decode cX5_measured 90 = .ok (.iaload, 1) := by decide +kernel
theorem dX5_measured_91 : decode cX5_measured 91 = .ok (.ireturn, 1) := by decide +kernel
theorem dX5_measured_92 : decode cX5_measured 92 = .ok (.aload_n 0, 1) := by decide +kernel
theorem dX5_measured_93 : decode cX5_measured 93 = .ok (.getfield 48, 3) := by decide +kernel
theorem dX5_measured_96 : decode cX5_measured 96 = .ok (.ireturn, 1) := by decide +kernel
theorem dX5_measured_97 : decode cX5_measured 97 = .ok (.aload_n 0, 1) := by decide +kernel
theorem dX5_measured_98 : decode cX5_measured 98 = .ok (.getfield 51, 3) := by decide +kernel
theorem dX5_measured_101 : decode cX5_measured 101 = .ok (.ireturn, 1) := by decide +kernel
theorem dX5_measured_102 : decode cX5_measured 102 = .ok (.sipush (-1000), 3) := by decide +kernel
theorem dX5_measured_105 : decode cX5_measured 105 = .ok (.ireturn, 1) := by decide +kernel
theorem dX5_fallYear_0 : decode cX5_fallYear 0 = .ok (.aload_n 0, 1) := by decide +kernel
theorem dX5_fallYear_1 : decode cX5_fallYear 1 = .ok (.getfield 28, 3) := by decide +kernel
theorem dX5_fallYear_4 : decode cX5_fallYear 4 = .ok (.iconst 2, 1) := by decide +kernel
theorem dX5_fallYear_5 : decode cX5_fallYear 5 = .ok (.if_icmp .lt 19, 3) := by decide +kernel
theorem dX5_fallYear_8 : decode cX5_fallYear 8 = .ok (.aload_n 0, 1) := by decide +kernel
theorem dX5_fallYear_9 : decode cX5_fallYear 9 = .ok (.getfield 34, 3) := by decide +kernel
theorem dX5_fallYear_12 : decode cX5_fallYear 12 = .ok (.ifCond .lt 12, 3) := by decide +kernel
theorem dX5_fallYear_15 : decode cX5_fallYear 15 = .ok (.aload_n 0, 1) := by decide +kernel
theorem dX5_fallYear_16 : decode cX5_fallYear 16 = .ok (.getfield 34, 3) := by decide +kernel
theorem dX5_fallYear_19 : decode cX5_fallYear 19 = .ok (.bipush 60, 2) := by decide +kernel
theorem dX5_fallYear_21 : decode cX5_fallYear 21 = .ok (.if_icmp .lt 5, 3) := by decide +kernel
theorem dX5_fallYear_24 : decode cX5_fallYear 24 = .ok (.iconst (-1), 1) := by decide +kernel
theorem dX5_fallYear_25 : decode cX5_fallYear 25 = .ok (.ireturn, 1) := by decide +kernel
theorem dX5_fallYear_26 : decode cX5_fallYear 26 = .ok (.aload_n 0, 1) := by decide +kernel
theorem dX5_fallYear_27 : decode cX5_fallYear 27 = .ok (.getfield 22, 3) := by decide +kernel
theorem dX5_fallYear_30 : decode cX5_fallYear 30 = .ok (.aload_n 0, 1) := by decide +kernel
theorem dX5_fallYear_31 : decode cX5_fallYear 31 = .ok (.getfield 34, 3) := by decide +kernel
theorem dX5_fallYear_34 : decode cX5_fallYear 34 = .ok (.iaload, 1) := by decide +kernel
theorem dX5_fallYear_35 : decode cX5_fallYear 35 = .ok (.invokestatic 54, 3) := by decide +kernel
theorem dX5_fallYear_38 : decode cX5_fallYear 38 = .ok (.iload_n 1, 1) := by decide +kernel
theorem dX5_fallYear_39 : decode cX5_fallYear 39 = .ok (.if_icmp .le 13, 3) := by decide +kernel
theorem dX5_fallYear_42 : decode cX5_fallYear 42 = .ok (.aload_n 0, 1) := by decide +kernel
theorem dX5_fallYear_43 : decode cX5_fallYear 43 = .ok (.getfield 19, 3) := by decide +kernel
theorem dX5_fallYear_46 : decode cX5_fallYear 46 = .ok (.aload_n 0, 1) := by decide +kernel
theorem dX5_fallYear_47 : decode cX5_fallYear 47 = .ok (.getfield 34, 3) := by decide +kernel
theorem dX5_fallYear_50 : decode cX5_fallYear 50 = .ok (.iaload, 1) := by decide +kernel
theorem dX5_fallYear_51 : decode cX5_fallYear 51 = .ok (.ireturn, 1) := by decide +kernel
theorem dX5_fallYear_52 : decode cX5_fallYear 52 = .ok (.aload_n 0, 1) := by decide +kernel
theorem dX5_fallYear_53 : decode cX5_fallYear 53 = .ok (.getfield 48, 3) := by decide +kernel
theorem dX5_fallYear_56 : decode cX5_fallYear 56 = .ok (.ifCond .ne 5, 3) := by decide +kernel
theorem dX5_fallYear_59 : decode cX5_fallYear 59 = .ok (.iconst (-1), 1) := by decide +kernel
theorem dX5_fallYear_60 : decode cX5_fallYear 60 = .ok (.ireturn, 1) := by decide +kernel
theorem dX5_fallYear_61 : decode cX5_fallYear 61 = .ok (.aload_n 0, 1) := by decide +kernel
theorem dX5_fallYear_62 : decode cX5_fallYear 62 = .ok (.getfield 48, 3) := by decide +kernel
theorem dX5_fallYear_65 : decode cX5_fallYear 65 = .ok (.ifCond .le 17, 3) := by decide +kernel
theorem dX5_fallYear_68 : decode cX5_fallYear 68 = .ok (.iload_n 1, 1) := by decide +kernel
theorem dX5_fallYear_69 : decode cX5_fallYear 69 = .ok (.aload_n 0, 1) := by decide +kernel
theorem dX5_fallYear_70 : decode cX5_fallYear 70 = .ok (.getfield 22, 3) := by decide +kernel
theorem dX5_fallYear_73 : decode cX5_fallYear 73 = .ok (.aload_n 0, 1) := by decide +kernel
theorem dX5_fallYear_74 : decode cX5_fallYear 74 = .ok (.getfield 34, 3) := by decide +kernel
theorem dX5_fallYear_77 : decode cX5_fallYear 77 = .ok (.iaload, 1) := by decide +kernel
theorem dX5_fallYear_78 : decode cX5_fallYear 78 = .ok (.isub, 1) := by decide +kernel
theorem dX5_fallYear_79 : decode cX5_fallYear 79 = .ok (.goto 14, 3) := by decide +kernel
theorem dX5_fallYear_82 : decode cX5_fallYear 82 = .ok (.iload_n 1, 1) := by decide +kernel
theorem dX5_fallYear_83 : decode cX5_fallYear 83 = .ok (.aload_n 0, 1) := by decide +kernel
theorem dX5_fallYear_84 : decode cX5_fallYear 84 = .ok (.getfield 22, 3) := by decide +kernel
theorem dX5_fallYear_87 : decode cX5_fallYear 87 = .ok (.aload_n 0, 1) := by decide +kernel
theorem dX5_fallYear_88 : decode cX5_fallYear 88 = .ok (.getfield 34, 3) := by decide +kernel
theorem dX5_fallYear_91 : decode cX5_fallYear 91 = .ok (.iaload, 1) := by decide +kernel
theorem dX5_fallYear_92 : decode cX5_fallYear 92 = .ok (.iadd, 1) := by decide +kernel
theorem dX5_fallYear_93 : decode cX5_fallYear 93 = .ok (.istore_n 2, 1) := by decide +kernel
theorem dX5_fallYear_94 : decode cX5_fallYear 94 = .ok (.aload_n 0, 1) := by decide +kernel
theorem dX5_fallYear_95 : decode cX5_fallYear 95 = .ok (.getfield 19, 3) := by decide +kernel
theorem dX5_fallYear_98 : decode cX5_fallYear 98 = .ok (.aload_n 0, 1) := by decide +kernel
theorem dX5_fallYear_99 : decode cX5_fallYear 99 = .ok (.getfield 34, 3) := by decide +kernel
theorem dX5_fallYear_102 : decode cX5_fallYear 102 = .ok (.iaload, 1) := by decide +kernel
theorem dX5_fallYear_103 : decode cX5_fallYear 103 = .ok (.iload_n 2, 1) := by decide +kernel
theorem dX5_fallYear_104 : decode cX5_fallYear 104 = .ok (.aload_n 0, 1) := by decide +kernel
theorem dX5_fallYear_105 : decode cX5_fallYear 105 = .ok (.getfield 51, 3) := by decide +kernel
theorem dX5_fallYear_108 : decode cX5_fallYear 108 = .ok (.imul, 1) := by decide +kernel
theorem dX5_fallYear_109 : decode cX5_fallYear 109 = .ok (.aload_n 0, 1) := by decide +kernel
theorem dX5_fallYear_110 : decode cX5_fallYear 110 = .ok (.getfield 48, 3) := by decide +kernel
theorem dX5_fallYear_113 : decode cX5_fallYear 113 = .ok (.invokestatic 54, 3) := by decide +kernel
theorem dX5_fallYear_116 : decode cX5_fallYear 116 = .ok (.idiv, 1) := by decide +kernel
theorem dX5_fallYear_117 : decode cX5_fallYear 117 = .ok (.iadd, 1) := by decide +kernel
theorem dX5_fallYear_118 : decode cX5_fallYear 118 = .ok (.iconst 1, 1) := by decide +kernel
theorem dX5_fallYear_119 : decode cX5_fallYear 119 = .ok (.iadd, 1) := by decide +kernel
theorem dX5_fallYear_120 : decode cX5_fallYear 120 = .ok (.istore_n 3, 1) := by decide +kernel
theorem dX5_fallYear_121 : decode cX5_fallYear 121 = .ok (.iload_n 3, 1) := by decide +kernel
theorem dX5_fallYear_122 : decode cX5_fallYear 122 = .ok (.sipush 9999, 3) := by decide +kernel
theorem dX5_fallYear_125 : decode cX5_fallYear 125 = .ok (.if_icmp .gt 7, 3) := by decide +kernel
theorem dX5_fallYear_128 : decode cX5_fallYear 128 = .ok (.iload_n 3, 1) := by decide +kernel
theorem dX5_fallYear_129 : decode cX5_fallYear 129 = .ok (.goto 4, 3) := by decide +kernel
theorem dX5_fallYear_132 : decode cX5_fallYear 132 = .ok (.iconst (-1), 1) := by decide +kernel
theorem dX5_fallYear_133 : decode cX5_fallYear 133 = .ok (.ireturn, 1) := by decide +kernel
theorem dX6_init_0 : decode cX6_init 0 = .ok (.aload_n 0, 1) := by decide +kernel
theorem dX6_init_1 : decode cX6_init 1 = .ok (.invokespecial 3, 3) := by decide +kernel
theorem dX6_init_4 : decode cX6_init 4 = .ok (.aload_n 0, 1) := by decide +kernel
theorem dX6_init_5 : decode cX6_init 5 = .ok (.iconst 0, 1) := by decide +kernel
theorem dX6_init_6 : decode cX6_init 6 = .ok (.putfield 9, 3) := by decide +kernel
theorem dX6_init_9 : decode cX6_init 9 = .ok (.aload_n 0, 1) := by decide +kernel
theorem dX6_init_10 : decode cX6_init 10 = .ok (.sipush 200, 3) := by decide +kernel
theorem dX6_init_13 : decode cX6_init 13 = .ok (.newarray .int, 2) := by decide +kernel
theorem dX6_init_15 : decode cX6_init 15 = .ok (.putfield 15, 3) := by decide +kernel
theorem dX6_init_18 : decode cX6_init 18 = .ok (.aload_n 0, 1) := by decide +kernel
theorem dX6_init_19 : decode cX6_init 19 = .ok (.sipush 200, 3) := by decide +kernel
theorem dX6_init_22 : decode cX6_init 22 = .ok (.newarray .int, 2) := by decide +kernel
theorem dX6_init_24 : decode cX6_init 24 = .ok (.putfield 19, 3) := by decide +kernel
theorem dX6_init_27 : decode cX6_init 27 = .ok (.aload_n 0, 1) := by decide +kernel
theorem dX6_init_28 : decode cX6_init 28 = .ok (.sipush 200, 3) := by decide +kernel
theorem dX6_init_31 : decode cX6_init 31 = .ok (.newarray .int, 2) := by decide +kernel
theorem dX6_init_33 : decode cX6_init 33 = .ok (.putfield 22, 3) := by decide +kernel
theorem dX6_init_36 : decode cX6_init 36 = .ok (.aload_n 0, 1) := by decide +kernel
theorem dX6_init_37 : decode cX6_init 37 = .ok (.sipush 200, 3) := by decide +kernel
theorem dX6_init_40 : decode cX6_init 40 = .ok (.newarray .int, 2) := by decide +kernel
theorem dX6_init_42 : decode cX6_init 42 = .ok (.putfield 25, 3) := by decide +kernel
theorem dX6_init_45 : decode cX6_init 45 = .ok (.aload_n 0, 1) := by decide +kernel
theorem dX6_init_46 : decode cX6_init 46 = .ok (.sipush 1200, 3) := by decide +kernel
theorem dX6_init_49 : decode cX6_init 49 = .ok (.newarray .int, 2) := by decide +kernel
theorem dX6_init_51 : decode cX6_init 51 = .ok (.putfield 28, 3) := by decide +kernel
theorem dX6_init_54 : decode cX6_init 54 = .ok (.aload_n 0, 1) := by decide +kernel
theorem dX6_init_55 : decode cX6_init 55 = .ok (.bipush 48, 2) := by decide +kernel
theorem dX6_init_57 : decode cX6_init 57 = .ok (.newarray .int, 2) := by decide +kernel
theorem dX6_init_59 : decode cX6_init 59 = .ok (.putfield 31, 3) := by decide +kernel
theorem dX6_init_62 : decode cX6_init 62 = .ok (.aload_n 0, 1) := by decide +kernel
theorem dX6_init_63 : decode cX6_init 63 = .ok (.getfield 31, 3) := by decide +kernel
theorem dX6_init_66 : decode cX6_init 66 = .ok (.iconst (-1), 1) := by decide +kernel
theorem dX6_init_67 : decode cX6_init 67 = .ok (.invokestatic 34, 3) := by decide +kernel
theorem dX6_init_70 : decode cX6_init 70 = .ok (.return_, 1) := by decide +kernel
theorem dX6_tell_0 : decode cX6_tell 0 = .ok (.aload_n 3, 1) := by decide +kernel
theorem dX6_tell_1 : decode cX6_tell 1 = .ok (.invokevirtual 40, 3) := by decide +kernel
theorem dX6_tell_4 : decode cX6_tell 4 = .ok (.ifCond .le 22, 3) := by decide +kernel
theorem dX6_tell_7 : decode cX6_tell 7 = .ok (.aload_n 3, 1) := by decide +kernel
theorem dX6_tell_8 : decode cX6_tell 8 = .ok (.aload_n 3, 1) := by decide +kernel
theorem dX6_tell_9 : decode cX6_tell 9 = .ok (.invokevirtual 40, 3) := by decide +kernel
theorem dX6_tell_12 : decode cX6_tell 12 = .ok (.iconst 1, 1) := by decide +kernel
theorem dX6_tell_13 : decode cX6_tell 13 = .ok (.isub, 1) := by decide +kernel
theorem dX6_tell_14 : decode cX6_tell 14 = .ok (.invokevirtual 46, 3) := by decide +kernel
theorem dX6_tell_17 : decode cX6_tell 17 = .ok (.bipush 39, 2) := by decide +kernel
theorem dX6_tell_19 : decode cX6_tell 19 = .ok (.if_icmp .ne 7, 3) := by decide +kernel
theorem dX6_tell_22 : decode cX6_tell 22 = .ok (.iconst 1, 1) := by decide +kernel
theorem dX6_tell_23 : decode cX6_tell 23 = .ok (.goto 4, 3) := by decide +kernel
theorem dX6_tell_26 : decode cX6_tell 26 = .ok (.iconst 0, 1) := by decide +kernel
theorem dX6_tell_27 : decode cX6_tell 27 = .ok (.istore 4, 2) := by decide +kernel
theorem dX6_tell_29 : decode cX6_tell 29 = .ok (.aload_n 3, 1) := by decide +kernel
theorem dX6_tell_30 : decode cX6_tell 30 = .ok (.invokevirtual 40, 3) := by decide +kernel
theorem dX6_tell_33 : decode cX6_tell 33 = .ok (.iload 4, 2) := by decide +kernel
theorem dX6_tell_35 : decode cX6_tell 35 = .ok (.isub, 1) := by decide +kernel
theorem dX6_tell_36 : decode cX6_tell 36 = .ok (.istore 5, 2) := by decide +kernel
theorem dX6_tell_38 : decode cX6_tell 38 = .ok (.aload_n 0, 1) := by decide +kernel
theorem dX6_tell_39 : decode cX6_tell 39 = .ok (.getfield 9, 3) := by decide +kernel
theorem dX6_tell_42 : decode cX6_tell 42 = .ok (.sipush 200, 3) := by decide +kernel
theorem dX6_tell_45 : decode cX6_tell 45 = .ok (.if_icmp .ge 10, 3) := by decide +kernel
theorem dX6_tell_48 : decode cX6_tell 48 = .ok (.iload 5, 2) := by decide +kernel
theorem dX6_tell_50 : decode cX6_tell 50 = .ok (.bipush 6, 2) := by decide +kernel
theorem dX6_tell_52 : decode cX6_tell 52 = .ok (.if_icmp .le 5, 3) := by decide +kernel
theorem dX6_tell_55 : decode cX6_tell 55 = .ok (.iconst (-1), 1) := by decide +kernel
theorem dX6_tell_56 : decode cX6_tell 56 = .ok (.ireturn, 1) := by decide +kernel
theorem dX6_tell_57 : decode cX6_tell 57 = .ok (.iconst 0, 1) := by decide +kernel
theorem dX6_tell_58 : decode cX6_tell 58 = .ok (.istore 6, 2) := by decide +kernel
theorem dX6_tell_60 : decode cX6_tell 60 = .ok (.iload 6, 2) := by decide +kernel
theorem dX6_tell_62 : decode cX6_tell 62 = .ok (.iload 5, 2) := by decide +kernel
theorem dX6_tell_64 : decode cX6_tell 64 = .ok (.if_icmp .ge 44, 3) := by decide +kernel
theorem dX6_tell_67 : decode cX6_tell 67 = .ok (.aload_n 3, 1) := by decide +kernel
theorem dX6_tell_68 : decode cX6_tell 68 = .ok (.iload 6, 2) := by decide +kernel
theorem dX6_tell_70 : decode cX6_tell 70 = .ok (.invokevirtual 46, 3) := by decide +kernel
theorem dX6_tell_73 : decode cX6_tell 73 = .ok (.invokestatic 50, 3) := by decide +kernel
theorem dX6_tell_76 : decode cX6_tell 76 = .ok (.ifCond .ne 5, 3) := by decide +kernel
theorem dX6_tell_79 : decode cX6_tell 79 = .ok (.iconst (-1), 1) := by decide +kernel
theorem dX6_tell_80 : decode cX6_tell 80 = .ok (.ireturn, 1) := by decide +kernel
theorem dX6_tell_81 : decode cX6_tell 81 = .ok (.aload_n 0, 1) := by decide +kernel
theorem dX6_tell_82 : decode cX6_tell 82 = .ok (.getfield 28, 3) := by decide +kernel
theorem dX6_tell_85 : decode cX6_tell 85 = .ok (.aload_n 0, 1) := by decide +kernel
theorem dX6_tell_86 : decode cX6_tell 86 = .ok (.getfield 9, 3) := by decide +kernel
theorem dX6_tell_89 : decode cX6_tell 89 = .ok (.bipush 6, 2) := by decide +kernel
theorem dX6_tell_91 : decode cX6_tell 91 = .ok (.imul, 1) := by decide +kernel
theorem dX6_tell_92 : decode cX6_tell 92 = .ok (.iload 6, 2) := by decide +kernel
theorem dX6_tell_94 : decode cX6_tell 94 = .ok (.iadd, 1) := by decide +kernel
theorem dX6_tell_95 : decode cX6_tell 95 = .ok (.aload_n 3, 1) := by decide +kernel
theorem dX6_tell_96 : decode cX6_tell 96 = .ok (.iload 6, 2) := by decide +kernel
theorem dX6_tell_98 : decode cX6_tell 98 = .ok (.invokevirtual 46, 3) := by decide +kernel
theorem dX6_tell_101 : decode cX6_tell 101 = .ok (.iastore, 1) := by decide +kernel
theorem dX6_tell_102 : decode cX6_tell 102 = .ok (.iinc 6 1, 3) := by decide +kernel
theorem dX6_tell_105 : decode cX6_tell 105 = .ok (.goto (-45), 3) := by decide +kernel
theorem dX6_tell_108 : decode cX6_tell 108 = .ok (.aload_n 0, 1) := by decide +kernel
theorem dX6_tell_109 : decode cX6_tell 109 = .ok (.getfield 15, 3) := by decide +kernel
theorem dX6_tell_112 : decode cX6_tell 112 = .ok (.aload_n 0, 1) := by decide +kernel
theorem dX6_tell_113 : decode cX6_tell 113 = .ok (.getfield 9, 3) := by decide +kernel
theorem dX6_tell_116 : decode cX6_tell 116 = .ok (.iload_n 1, 1) := by decide +kernel
theorem dX6_tell_117 : decode cX6_tell 117 = .ok (.iastore, 1) := by decide +kernel
theorem dX6_tell_118 : decode cX6_tell 118 = .ok (.aload_n 0, 1) := by decide +kernel
theorem dX6_tell_119 : decode cX6_tell 119 = .ok (.getfield 19, 3) := by decide +kernel
theorem dX6_tell_122 : decode cX6_tell 122 = .ok (.aload_n 0, 1) := by decide +kernel
theorem dX6_tell_123 : decode cX6_tell 123 = .ok (.getfield 9, 3) := by decide +kernel
theorem dX6_tell_126 : decode cX6_tell 126 = .ok (.iload_n 2, 1) := by decide +kernel
theorem dX6_tell_127 : decode cX6_tell 127 = .ok (.iastore, 1) := by decide +kernel
theorem dX6_tell_128 : decode cX6_tell 128 = .ok (.aload_n 0, 1) := by decide +kernel
theorem dX6_tell_129 : decode cX6_tell 129 = .ok (.getfield 22, 3) := by decide +kernel
theorem dX6_tell_132 : decode cX6_tell 132 = .ok (.aload_n 0, 1) := by decide +kernel
theorem dX6_tell_133 : decode cX6_tell 133 = .ok (.getfield 9, 3) := by decide +kernel
theorem dX6_tell_136 : decode cX6_tell 136 = .ok (.iload 5, 2) := by decide +kernel
theorem dX6_tell_138 : decode cX6_tell 138 = .ok (.iastore, 1) := by decide +kernel
theorem dX6_tell_139 : decode cX6_tell 139 = .ok (.aload_n 0, 1) := by decide +kernel
theorem dX6_tell_140 : decode cX6_tell 140 = .ok (.getfield 25, 3) := by decide +kernel
theorem dX6_tell_143 : decode cX6_tell 143 = .ok (.aload_n 0, 1) := by decide +kernel
theorem dX6_tell_144 : decode cX6_tell 144 = .ok (.getfield 9, 3) := by decide +kernel
theorem dX6_tell_147 : decode cX6_tell 147 = .ok (.iload 4, 2) := by decide +kernel
theorem dX6_tell_149 : decode cX6_tell 149 = .ok (.iastore, 1) := by decide +kernel
theorem dX6_tell_150 : decode cX6_tell 150 = .ok (.aload_n 0, 1) := by decide +kernel
theorem dX6_tell_151 : decode cX6_tell 151 = .ok (.dup, 1) := by decide +kernel
theorem dX6_tell_152 : decode cX6_tell 152 = .ok (.getfield 9, 3) := by decide +kernel
theorem dX6_tell_155 : decode cX6_tell 155 = .ok (.iconst 1, 1) := by decide +kernel
theorem dX6_tell_156 : decode cX6_tell 156 = .ok (.iadd, 1) := by decide +kernel
theorem dX6_tell_157 : decode cX6_tell 157 = .ok (.putfield 9, 3) := by decide +kernel
theorem dX6_tell_160 : decode cX6_tell 160 = .ok (.iload 5, 2) := by decide +kernel
theorem dX6_tell_162 : decode cX6_tell 162 = .ok (.ireturn, 1) := by decide +kernel
theorem dX6_isSign_0 : decode cX6_isSign 0 = .ok (.iload_n 0, 1) := by decide +kernel
theorem dX6_isSign_1 : decode cX6_isSign 1 = .ok (.bipush 73, 2) := by decide +kernel
theorem dX6_isSign_3 : decode cX6_isSign 3 = .ok (.if_icmp .eq 21, 3) := by decide +kernel
theorem dX6_isSign_6 : decode cX6_isSign 6 = .ok (.iload_n 0, 1) := by decide +kernel
theorem dX6_isSign_7 : decode cX6_isSign 7 = .ok (.bipush 86, 2) := by decide +kernel
theorem dX6_isSign_9 : decode cX6_isSign 9 = .ok (.if_icmp .eq 15, 3) := by decide +kernel
theorem dX6_isSign_12 : decode cX6_isSign 12 = .ok (.iload_n 0, 1) := by decide +kernel
theorem dX6_isSign_13 : decode cX6_isSign 13 = .ok (.bipush 88, 2) := by decide +kernel
theorem dX6_isSign_15 : decode cX6_isSign 15 = .ok (.if_icmp .eq 9, 3) := by decide +kernel
theorem dX6_isSign_18 : decode cX6_isSign 18 = .ok (.iload_n 0, 1) := by decide +kernel
theorem dX6_isSign_19 : decode cX6_isSign 19 = .ok (.bipush 63, 2) := by decide +kernel
theorem dX6_isSign_21 : decode cX6_isSign 21 = .ok (.if_icmp .ne 7, 3) := by decide +kernel
theorem dX6_isSign_24 : decode cX6_isSign 24 = .ok (.iconst 1, 1) := by decide +kernel
theorem dX6_isSign_25 : decode cX6_isSign 25 = .ok (.goto 4, 3) := by decide +kernel
theorem dX6_isSign_28 : decode cX6_isSign 28 = .ok (.iconst 0, 1) := by decide +kernel
theorem dX6_isSign_29 : decode cX6_isSign 29 = .ok (.ireturn, 1) := by decide +kernel
theorem dX6_showUpTo_0 : decode cX6_showUpTo 0 = .ok (.aload_n 0, 1) := by decide +kernel
theorem dX6_showUpTo_1 : decode cX6_showUpTo 1 = .ok (.getfield 31, 3) := by decide +kernel
theorem dX6_showUpTo_4 : decode cX6_showUpTo 4 = .ok (.iconst (-1), 1) := by decide +kernel
theorem dX6_showUpTo_5 : decode cX6_showUpTo 5 = .ok (.invokestatic 34, 3) := by decide +kernel
theorem dX6_showUpTo_8 : decode cX6_showUpTo 8 = .ok (.iconst 0, 1) := by decide +kernel
theorem dX6_showUpTo_9 : decode cX6_showUpTo 9 = .ok (.istore_n 2, 1) := by decide +kernel
theorem dX6_showUpTo_10 : decode cX6_showUpTo 10 = .ok (.iload_n 2, 1) := by decide +kernel
theorem dX6_showUpTo_11 : decode cX6_showUpTo 11 = .ok (.aload_n 0, 1) := by decide +kernel
theorem dX6_showUpTo_12 : decode cX6_showUpTo 12 = .ok (.getfield 9, 3) := by decide +kernel
theorem dX6_showUpTo_15 : decode cX6_showUpTo 15 = .ok (.if_icmp .ge 50, 3) := by decide +kernel
theorem dX6_showUpTo_18 : decode cX6_showUpTo 18 = .ok (.iload_n 2, 1) := by decide +kernel
theorem dX6_showUpTo_19 : decode cX6_showUpTo 19 = .ok (.sipush 200, 3) := by decide +kernel
theorem dX6_showUpTo_22 : decode cX6_showUpTo 22 = .ok (.if_icmp .ge 43, 3) := by decide +kernel
theorem dX6_showUpTo_25 : decode cX6_showUpTo 25 = .ok (.aload_n 0, 1) := by decide +kernel
theorem dX6_showUpTo_26 : decode cX6_showUpTo 26 = .ok (.getfield 15, 3) := by decide +kernel
theorem dX6_showUpTo_29 : decode cX6_showUpTo 29 = .ok (.iload_n 2, 1) := by decide +kernel
theorem dX6_showUpTo_30 : decode cX6_showUpTo 30 = .ok (.iaload, 1) := by decide +kernel
theorem dX6_showUpTo_31 : decode cX6_showUpTo 31 = .ok (.istore_n 3, 1) := by decide +kernel
theorem dX6_showUpTo_32 : decode cX6_showUpTo 32 = .ok (.aload_n 0, 1) := by decide +kernel
theorem dX6_showUpTo_33 : decode cX6_showUpTo 33 = .ok (.getfield 19, 3) := by decide +kernel
theorem dX6_showUpTo_36 : decode cX6_showUpTo 36 = .ok (.iload_n 2, 1) := by decide +kernel
theorem dX6_showUpTo_37 : decode cX6_showUpTo 37 = .ok (.iaload, 1) := by decide +kernel
theorem dX6_showUpTo_38 : decode cX6_showUpTo 38 = .ok (.iload_n 1, 1) := by decide +kernel
theorem dX6_showUpTo_39 : decode cX6_showUpTo 39 = .ok (.if_icmp .gt 20, 3) := by decide +kernel
theorem dX6_showUpTo_42 : decode cX6_showUpTo 42 = .ok (.iload_n 3, 1) := by decide +kernel
theorem dX6_showUpTo_43 : decode cX6_showUpTo 43 = .ok (.ifCond .lt 16, 3) := by decide +kernel
theorem dX6_showUpTo_46 : decode cX6_showUpTo 46 = .ok (.iload_n 3, 1) := by decide +kernel
theorem dX6_showUpTo_47 : decode cX6_showUpTo 47 = .ok (.bipush 48, 2) := by decide +kernel
theorem dX6_showUpTo_49 : decode cX6_showUpTo 49 = .ok (.if_icmp .ge 10, 3) := by decide +kernel
theorem dX6_showUpTo_52 : decode cX6_showUpTo 52 = .ok (.aload_n 0, 1) := by decide +kernel
theorem dX6_showUpTo_53 : decode cX6_showUpTo 53 = .ok (.getfield 31, 3) := by decide +kernel
theorem dX6_showUpTo_56 : decode cX6_showUpTo 56 = .ok (.iload_n 3, 1) := by decide +kernel
theorem dX6_showUpTo_57 : decode cX6_showUpTo 57 = .ok (.iload_n 2, 1) := by decide +kernel
theorem dX6_showUpTo_58 : decode cX6_showUpTo 58 = .ok (.iastore, 1) := by decide +kernel
theorem dX6_showUpTo_59 : decode cX6_showUpTo 59 = .ok (.iinc 2 1, 3) := by decide +kernel
theorem dX6_showUpTo_62 : decode cX6_showUpTo 62 = .ok (.goto (-52), 3) := by decide +kernel
theorem dX6_showUpTo_65 : decode cX6_showUpTo 65 = .ok (.return_, 1) := by decide +kernel
theorem dX6_signsOn_0 : decode cX6_signsOn 0 = .ok (.iconst 0, 1) := by decide +kernel
theorem dX6_signsOn_1 : decode cX6_signsOn 1 = .ok (.aload_n 0, 1) := by decide +kernel
theorem dX6_signsOn_2 : decode cX6_signsOn 2 = .ok (.getfield 22, 3) := by decide +kernel
theorem dX6_signsOn_5 : decode cX6_signsOn 5 = .ok (.aload_n 0, 1) := by decide +kernel
theorem dX6_signsOn_6 : decode cX6_signsOn 6 = .ok (.getfield 31, 3) := by decide +kernel
theorem dX6_signsOn_9 : decode cX6_signsOn 9 = .ok (.iload_n 1, 1) := by decide +kernel
theorem dX6_signsOn_10 : decode cX6_signsOn 10 = .ok (.invokestatic 54, 3) := by decide +kernel
theorem dX6_signsOn_13 : decode cX6_signsOn 13 = .ok (.invokestatic 54, 3) := by decide +kernel
theorem dX6_signsOn_16 : decode cX6_signsOn 16 = .ok (.invokestatic 58, 3) := by decide +kernel
theorem dX6_signsOn_19 : decode cX6_signsOn 19 = .ok (.ireturn, 1) := by decide +kernel
theorem dX6_sideOf_0 : decode cX6_sideOf 0 = .ok (.iconst 0, 1) := by decide +kernel
theorem dX6_sideOf_1 : decode cX6_sideOf 1 = .ok (.aload_n 0, 1) := by decide +kernel
theorem dX6_sideOf_2 : decode cX6_sideOf 2 = .ok (.getfield 25, 3) := by decide +kernel
theorem dX6_sideOf_5 : decode cX6_sideOf 5 = .ok (.aload_n 0, 1) := by decide +kernel
theorem dX6_sideOf_6 : decode cX6_sideOf 6 = .ok (.getfield 31, 3) := by decide +kernel
theorem dX6_sideOf_9 : decode cX6_sideOf 9 = .ok (.iload_n 1, 1) := by decide +kernel
theorem dX6_sideOf_10 : decode cX6_sideOf 10 = .ok (.invokestatic 54, 3) := by decide +kernel
theorem dX6_sideOf_13 : decode cX6_sideOf 13 = .ok (.invokestatic 54, 3) := by decide +kernel
theorem dX6_sideOf_16 : decode cX6_sideOf 16 = .ok (.invokestatic 58, 3) := by decide +kernel
theorem dX6_sideOf_19 : decode cX6_sideOf 19 = .ok (.ireturn, 1) := by decide +kernel
theorem dX6_signAt_0 : decode cX6_signAt 0 = .ok (.iload_n 2, 1) := by decide +kernel
theorem dX6_signAt_1 : decode cX6_signAt 1 = .ok (.ifCond .lt 35, 3) := by decide +kernel
theorem dX6_signAt_4 : decode cX6_signAt 4 = .ok (.iload_n 2, 1) := by decide +kernel
theorem dX6_signAt_5 : decode cX6_signAt 5 = .ok (.aload_n 0, 1) := by decide +kernel
theorem dX6_signAt_6 : decode cX6_signAt 6 = .ok (.iload_n 1, 1) := by decide +kernel
theorem dX6_signAt_7 : decode cX6_signAt 7 = .ok (.invokevirtual 64, 3) := by decide +kernel
theorem dX6_signAt_10 : decode cX6_signAt 10 = .ok (.if_icmp .ge 26, 3) := by decide +kernel
theorem dX6_signAt_13 : decode cX6_signAt 13 = .ok (.aload_n 0, 1) := by decide +kernel
theorem dX6_signAt_14 : decode cX6_signAt 14 = .ok (.getfield 28, 3) := by decide +kernel
theorem dX6_signAt_17 : decode cX6_signAt 17 = .ok (.aload_n 0, 1) := by decide +kernel
theorem dX6_signAt_18 : decode cX6_signAt 18 = .ok (.getfield 31, 3) := by decide +kernel
theorem dX6_signAt_21 : decode cX6_signAt 21 = .ok (.iload_n 1, 1) := by decide +kernel
theorem dX6_signAt_22 : decode cX6_signAt 22 = .ok (.invokestatic 54, 3) := by decide +kernel
theorem dX6_signAt_25 : decode cX6_signAt 25 = .ok (.bipush 6, 2) := by decide +kernel
theorem dX6_signAt_27 : decode cX6_signAt 27 = .ok (.imul, 1) := by decide +kernel
theorem dX6_signAt_28 : decode cX6_signAt 28 = .ok (.iload_n 2, 1) := by decide +kernel
theorem dX6_signAt_29 : decode cX6_signAt 29 = .ok (.iadd, 1) := by decide +kernel
theorem dX6_signAt_30 : decode cX6_signAt 30 = .ok (.invokestatic 54, 3) := by decide +kernel
theorem dX6_signAt_33 : decode cX6_signAt 33 = .ok (.goto 4, 3) := by decide +kernel
theorem dX6_signAt_36 : decode cX6_signAt 36 = .ok (.iconst (-1), 1) := by decide +kernel
theorem dX6_signAt_37 : decode cX6_signAt 37 = .ok (.ireturn, 1) := by decide +kernel
theorem dX6_numbersOn_0 : decode cX6_numbersOn 0 = .ok (.aload_n 0, 1) := by decide +kernel
theorem dX6_numbersOn_1 : decode cX6_numbersOn 1 = .ok (.getfield 31, 3) := by decide +kernel
theorem dX6_numbersOn_4 : decode cX6_numbersOn 4 = .ok (.iload_n 1, 1) := by decide +kernel
theorem dX6_numbersOn_5 : decode cX6_numbersOn 5 = .ok (.invokestatic 54, 3) := by decide +kernel
theorem dX6_numbersOn_8 : decode cX6_numbersOn 8 = .ok (.istore_n 3, 1) := by decide +kernel
theorem dX6_numbersOn_9 : decode cX6_numbersOn 9 = .ok (.aload_n 0, 1) := by decide +kernel
theorem dX6_numbersOn_10 : decode cX6_numbersOn 10 = .ok (.iload_n 1, 1) := by decide +kernel
theorem dX6_numbersOn_11 : decode cX6_numbersOn 11 = .ok (.invokevirtual 64, 3) := by decide +kernel
theorem dX6_numbersOn_14 : decode cX6_numbersOn 14 = .ok (.ifCond .ne 7, 3) := by decide +kernel
theorem dX6_numbersOn_17 : decode cX6_numbersOn 17 = .ok (.ldc2_w 67, 3) := by decide +kernel
theorem dX6_numbersOn_20 : decode cX6_numbersOn 20 = .ok (.lreturn, 1) := by decide +kernel
theorem dX6_numbersOn_21 : decode cX6_numbersOn 21 = .ok (.lconst 0, 1) := by decide +kernel
theorem dX6_numbersOn_22 : decode cX6_numbersOn 22 = .ok (.lstore 4, 2) := by decide +kernel
theorem dX6_numbersOn_24 : decode cX6_numbersOn 24 = .ok (.iconst 0, 1) := by decide +kernel
theorem dX6_numbersOn_25 : decode cX6_numbersOn 25 = .ok (.istore 6, 2) := by decide +kernel
theorem dX6_numbersOn_27 : decode cX6_numbersOn 27 = .ok (.iload 6, 2) := by decide +kernel
theorem dX6_numbersOn_29 : decode cX6_numbersOn 29 = .ok (.iconst 4, 1) := by decide +kernel
theorem dX6_numbersOn_30 : decode cX6_numbersOn 30 = .ok (.if_icmp .ge 94, 3) := by decide +kernel
theorem dX6_numbersOn_33 : decode cX6_numbersOn 33 = .ok (.iconst 0, 1) := by decide +kernel
theorem dX6_numbersOn_34 : decode cX6_numbersOn 34 = .ok (.istore 7, 2) := by decide +kernel
theorem dX6_numbersOn_36 : decode cX6_numbersOn 36 = .ok (.iload 7, 2) := by decide +kernel
theorem dX6_numbersOn_38 : decode cX6_numbersOn 38 = .ok (.bipush 12, 2) := by decide +kernel
theorem dX6_numbersOn_40 : decode cX6_numbersOn 40 = .ok (.if_icmp .ge 78, 3) := by decide +kernel
theorem dX6_numbersOn_43 : decode cX6_numbersOn 43 = .ok (.bipush 10, 2) := by decide +kernel
theorem dX6_numbersOn_45 : decode cX6_numbersOn 45 = .ok (.iload 6, 2) := by decide +kernel
theorem dX6_numbersOn_47 : decode cX6_numbersOn 47 = .ok (.imul, 1) := by decide +kernel
theorem dX6_numbersOn_48 : decode cX6_numbersOn 48 = .ok (.iload 7, 2) := by decide +kernel
theorem dX6_numbersOn_50 : decode cX6_numbersOn 50 = .ok (.invokestatic 69, 3) := by decide +kernel
theorem dX6_numbersOn_53 : decode cX6_numbersOn 53 = .ok (.iadd, 1) := by decide +kernel
theorem dX6_numbersOn_54 : decode cX6_numbersOn 54 = .ok (.istore 8, 2) := by decide +kernel
theorem dX6_numbersOn_56 : decode cX6_numbersOn 56 = .ok (.iload 8, 2) := by decide +kernel
theorem dX6_numbersOn_58 : decode cX6_numbersOn 58 = .ok (.ifCond .le 54, 3) := by decide +kernel
theorem dX6_numbersOn_61 : decode cX6_numbersOn 61 = .ok (.iload 7, 2) := by decide +kernel
theorem dX6_numbersOn_63 : decode cX6_numbersOn 63 = .ok (.aload_n 2, 1) := by decide +kernel
theorem dX6_numbersOn_64 : decode cX6_numbersOn 64 = .ok (.invokestatic 72, 3) := by decide +kernel
theorem dX6_numbersOn_67 : decode cX6_numbersOn 67 = .ok (.ifCond .eq 45, 3) := by decide +kernel
theorem dX6_numbersOn_70 : decode cX6_numbersOn 70 = .ok (.aload_n 0, 1) := by decide +kernel
theorem dX6_numbersOn_71 : decode cX6_numbersOn 71 = .ok (.iload_n 3, 1) := by decide +kernel
theorem dX6_numbersOn_72 : decode cX6_numbersOn 72 = .ok (.iload 6, 2) := by decide +kernel
theorem dX6_numbersOn_74 : decode cX6_numbersOn 74 = .ok (.iload 7, 2) := by decide +kernel
theorem dX6_numbersOn_76 : decode cX6_numbersOn 76 = .ok (.iconst 0, 1) := by decide +kernel
theorem dX6_numbersOn_77 : decode cX6_numbersOn 77 = .ok (.invokevirtual 76, 3) := by decide +kernel
theorem dX6_numbersOn_80 : decode cX6_numbersOn 80 = .ok (.ifCond .ne 23, 3) := by decide +kernel
theorem dX6_numbersOn_83 : decode cX6_numbersOn 83 = .ok (.aload_n 2, 1) := by decide +kernel
theorem dX6_numbersOn_84 : decode cX6_numbersOn 84 = .ok (.getfield 80, 3) := by decide +kernel
theorem dX6_numbersOn_87 : decode cX6_numbersOn 87 = .ok (.ifCond .eq 25, 3) := by decide +kernel
theorem dX6_numbersOn_90 : decode cX6_numbersOn 90 = .ok (.aload_n 0, 1) := by decide +kernel
theorem dX6_numbersOn_91 : decode cX6_numbersOn 91 = .ok (.iload_n 3, 1) := by decide +kernel
theorem dX6_numbersOn_92 : decode cX6_numbersOn 92 = .ok (.iload 6, 2) := by decide +kernel
theorem dX6_numbersOn_94 : decode cX6_numbersOn 94 = .ok (.iload 7, 2) := by decide +kernel
theorem dX6_numbersOn_96 : decode cX6_numbersOn 96 = .ok (.iconst 1, 1) := by decide +kernel
theorem dX6_numbersOn_97 : decode cX6_numbersOn 97 = .ok (.invokevirtual 76, 3) := by decide +kernel
theorem dX6_numbersOn_100 : decode cX6_numbersOn 100 = .ok (.ifCond .eq 12, 3) := by decide +kernel
theorem dX6_numbersOn_103 : decode cX6_numbersOn 103 = .ok (.lload 4, 2) := by decide +kernel
theorem dX6_numbersOn_105 : decode cX6_numbersOn 105 = .ok (.lconst 1, 1) := by decide +kernel
theorem dX6_numbersOn_106 : decode cX6_numbersOn 106 = .ok (.iload 8, 2) := by decide +kernel
theorem dX6_numbersOn_108 : decode cX6_numbersOn 108 = .ok (.lshl, 1) := by decide +kernel
theorem dX6_numbersOn_109 : decode cX6_numbersOn 109 = .ok (.lor, 1) := by decide +kernel
theorem dX6_numbersOn_110 : decode cX6_numbersOn 110 = .ok (.lstore 4, 2) := by decide +kernel
theorem dX6_numbersOn_112 : decode cX6_numbersOn 112 = .ok (.iinc 7 1, 3) := by decide +kernel
theorem dX6_numbersOn_115 : decode cX6_numbersOn 115 = .ok (.goto (-79), 3) := by decide +kernel
theorem dX6_numbersOn_118 : decode cX6_numbersOn 118 = .ok (.iinc 6 1, 3) := by decide +kernel
theorem dX6_numbersOn_121 : decode cX6_numbersOn 121 = .ok (.goto (-94), 3) := by decide +kernel
theorem dX6_numbersOn_124 : decode cX6_numbersOn 124 = .ok (.lload 4, 2) := by decide +kernel
theorem dX6_numbersOn_126 : decode cX6_numbersOn 126 = .ok (.lreturn, 1) := by decide +kernel
theorem dX6_unitOf_0 : decode cX6_unitOf 0 = .ok (.iload_n 0, 1) := by decide +kernel
theorem dX6_unitOf_1 : decode cX6_unitOf 1 = .ok (.bipush 10, 2) := by decide +kernel
theorem dX6_unitOf_3 : decode cX6_unitOf 3 = .ok (.if_icmp .ge 5, 3) := by decide +kernel
theorem dX6_unitOf_6 : decode cX6_unitOf 6 = .ok (.iload_n 0, 1) := by decide +kernel
theorem dX6_unitOf_7 : decode cX6_unitOf 7 = .ok (.ireturn, 1) := by decide +kernel
theorem dX6_unitOf_8 : decode cX6_unitOf 8 = .ok (.iload_n 0, 1) := by decide +kernel
theorem dX6_unitOf_9 : decode cX6_unitOf 9 = .ok (.bipush 10, 2) := by decide +kernel
theorem dX6_unitOf_11 : decode cX6_unitOf 11 = .ok (.if_icmp .ne 7, 3) := by decide +kernel
theorem dX6_unitOf_14 : decode cX6_unitOf 14 = .ok (.iconst 4, 1) := by decide +kernel
theorem dX6_unitOf_15 : decode cX6_unitOf 15 = .ok (.goto 5, 3) := by decide +kernel
theorem dX6_unitOf_18 : decode cX6_unitOf 18 = .ok (.bipush 9, 2) := by decide +kernel
theorem dX6_unitOf_20 : decode cX6_unitOf 20 = .ok (.ireturn, 1) := by decide +kernel
theorem dX6_isUsed_0 : decode cX6_isUsed 0 = .ok (.iload_n 0, 1) := by decide +kernel
theorem dX6_isUsed_1 : decode cX6_isUsed 1 = .ok (.bipush 10, 2) := by decide +kernel
theorem dX6_isUsed_3 : decode cX6_isUsed 3 = .ok (.if_icmp .lt 17, 3) := by decide +kernel
theorem dX6_isUsed_6 : decode cX6_isUsed 6 = .ok (.aload_n 1, 1) := by decide +kernel
theorem dX6_isUsed_7 : decode cX6_isUsed 7 = .ok (.getfield 86, 3) := by decide +kernel
theorem dX6_isUsed_10 : decode cX6_isUsed 10 = .ok (.iconst 1, 1) := by decide +kernel
theorem dX6_isUsed_11 : decode cX6_isUsed 11 = .ok (.if_icmp .eq 7, 3) := by decide +kernel
theorem dX6_isUsed_14 : decode cX6_isUsed 14 = .ok (.iconst 1, 1) := by decide +kernel
theorem dX6_isUsed_15 : decode cX6_isUsed 15 = .ok (.goto 4, 3) := by decide +kernel
theorem dX6_isUsed_18 : decode cX6_isUsed 18 = .ok (.iconst 0, 1) := by decide +kernel
theorem dX6_isUsed_19 : decode cX6_isUsed 19 = .ok (.ireturn, 1) := by decide +kernel
theorem dX6_isUsed_20 : decode cX6_isUsed 20 = .ok (.iload_n 0, 1) := by decide +kernel
theorem dX6_isUsed_21 : decode cX6_isUsed 21 = .ok (.iconst 4, 1) := by decide +kernel
theorem dX6_isUsed_22 : decode cX6_isUsed 22 = .ok (.if_icmp .eq 9, 3) := by decide +kernel
theorem dX6_isUsed_25 : decode cX6_isUsed 25 = .ok (.iload_n 0, 1) := by decide +kernel
theorem dX6_isUsed_26 : decode cX6_isUsed 26 = .ok (.bipush 9, 2) := by decide +kernel
theorem dX6_isUsed_28 : decode cX6_isUsed 28 = .ok (.if_icmp .ne 11, 3) := by decide +kernel
theorem dX6_isUsed_31 : decode cX6_isUsed 31 = .ok (.aload_n 1, 1) := by decide +kernel
theorem dX6_isUsed_32 : decode cX6_isUsed 32 = .ok (.getfield 86, 3) := by decide +kernel
theorem dX6_isUsed_35 : decode cX6_isUsed 35 = .ok (.iconst 2, 1) := by decide +kernel
theorem dX6_isUsed_36 : decode cX6_isUsed 36 = .ok (.if_icmp .eq 7, 3) := by decide +kernel
theorem dX6_isUsed_39 : decode cX6_isUsed 39 = .ok (.iconst 1, 1) := by decide +kernel
theorem dX6_isUsed_40 : decode cX6_isUsed 40 = .ok (.goto 4, 3) := by decide +kernel
theorem dX6_isUsed_43 : decode cX6_isUsed 43 = .ok (.iconst 0, 1) := by decide +kernel
theorem dX6_isUsed_44 : decode cX6_isUsed 44 = .ok (.ireturn, 1) := by decide +kernel
theorem dX6_spells_0 : decode cX6_spells 0 = .ok (.aload_n 0, 1) := by decide +kernel
theorem dX6_spells_1 : decode cX6_spells 1 = .ok (.getfield 22, 3) := by decide +kernel
theorem dX6_spells_4 : decode cX6_spells 4 = .ok (.iload_n 1, 1) := by decide +kernel
theorem dX6_spells_5 : decode cX6_spells 5 = .ok (.invokestatic 54, 3) := by decide +kernel
theorem dX6_spells_8 : decode cX6_spells 8 = .ok (.istore 5, 2) := by decide +kernel
theorem dX6_spells_10 : decode cX6_spells 10 = .ok (.iload 5, 2) := by decide +kernel
theorem dX6_spells_12 : decode cX6_spells 12 = .ok (.iload_n 2, 1) := by decide +kernel
theorem dX6_spells_13 : decode cX6_spells 13 = .ok (.if_icmp .lt 16, 3) := by decide +kernel
theorem dX6_spells_16 : decode cX6_spells 16 = .ok (.iload_n 3, 1) := by decide +kernel
theorem dX6_spells_17 : decode cX6_spells 17 = .ok (.iload 5, 2) := by decide +kernel
theorem dX6_spells_19 : decode cX6_spells 19 = .ok (.iload_n 2, 1) := by decide +kernel
theorem dX6_spells_20 : decode cX6_spells 20 = .ok (.isub, 1) := by decide +kernel
theorem dX6_spells_21 : decode cX6_spells 21 = .ok (.invokestatic 89, 3) := by decide +kernel
theorem dX6_spells_24 : decode cX6_spells 24 = .ok (.bipush 32, 2) := by decide +kernel
theorem dX6_spells_26 : decode cX6_spells 26 = .ok (.if_icmp .eq 5, 3) := by decide +kernel
theorem dX6_spells_29 : decode cX6_spells 29 = .ok (.iconst 0, 1) := by decide +kernel
theorem dX6_spells_30 : decode cX6_spells 30 = .ok (.ireturn, 1) := by decide +kernel
theorem dX6_spells_31 : decode cX6_spells 31 = .ok (.iconst 0, 1) := by decide +kernel
theorem dX6_spells_32 : decode cX6_spells 32 = .ok (.istore 6, 2) := by decide +kernel
theorem dX6_spells_34 : decode cX6_spells 34 = .ok (.iload 6, 2) := by decide +kernel
theorem dX6_spells_36 : decode cX6_spells 36 = .ok (.iload 5, 2) := by decide +kernel
theorem dX6_spells_38 : decode cX6_spells 38 = .ok (.if_icmp .ge 84, 3) := by decide +kernel
theorem dX6_spells_41 : decode cX6_spells 41 = .ok (.iload 6, 2) := by decide +kernel
theorem dX6_spells_43 : decode cX6_spells 43 = .ok (.iload_n 2, 1) := by decide +kernel
theorem dX6_spells_44 : decode cX6_spells 44 = .ok (.if_icmp .ge 8, 3) := by decide +kernel
theorem dX6_spells_47 : decode cX6_spells 47 = .ok (.bipush 88, 2) := by decide +kernel
theorem dX6_spells_49 : decode cX6_spells 49 = .ok (.goto 11, 3) := by decide +kernel
theorem dX6_spells_52 : decode cX6_spells 52 = .ok (.iload_n 3, 1) := by decide +kernel
theorem dX6_spells_53 : decode cX6_spells 53 = .ok (.iload 6, 2) := by decide +kernel
theorem dX6_spells_55 : decode cX6_spells 55 = .ok (.iload_n 2, 1) := by decide +kernel
theorem dX6_spells_56 : decode cX6_spells 56 = .ok (.isub, 1) := by decide +kernel
theorem dX6_spells_57 : decode cX6_spells 57 = .ok (.invokestatic 89, 3) := by decide +kernel
theorem dX6_spells_60 : decode cX6_spells 60 = .ok (.istore 7, 2) := by decide +kernel
theorem dX6_spells_62 : decode cX6_spells 62 = .ok (.aload_n 0, 1) := by decide +kernel
theorem dX6_spells_63 : decode cX6_spells 63 = .ok (.getfield 28, 3) := by decide +kernel
theorem dX6_spells_66 : decode cX6_spells 66 = .ok (.iload_n 1, 1) := by decide +kernel
theorem dX6_spells_67 : decode cX6_spells 67 = .ok (.bipush 6, 2) := by decide +kernel
theorem dX6_spells_69 : decode cX6_spells 69 = .ok (.imul, 1) := by decide +kernel
theorem dX6_spells_70 : decode cX6_spells 70 = .ok (.iload 4, 2) := by decide +kernel
theorem dX6_spells_72 : decode cX6_spells 72 = .ok (.ifCond .eq 13, 3) := by decide +kernel
theorem dX6_spells_75 : decode cX6_spells 75 = .ok (.iload 5, 2) := by decide +kernel
theorem dX6_spells_77 : decode cX6_spells 77 = .ok (.iconst 1, 1) := by decide +kernel
theorem dX6_spells_78 : decode cX6_spells 78 = .ok (.isub, 1) := by decide +kernel
theorem dX6_spells_79 : decode cX6_spells 79 = .ok (.iload 6, 2) := by decide +kernel
theorem dX6_spells_81 : decode cX6_spells 81 = .ok (.isub, 1) := by decide +kernel
theorem dX6_spells_82 : decode cX6_spells 82 = .ok (.goto 5, 3) := by decide +kernel
theorem dX6_spells_85 : decode cX6_spells 85 = .ok (.iload 6, 2) := by decide +kernel
theorem dX6_spells_87 : decode cX6_spells 87 = .ok (.iadd, 1) := by decide +kernel
theorem dX6_spells_88 : decode cX6_spells 88 = .ok (.invokestatic 54, 3) := by decide +kernel
theorem dX6_spells_91 : decode cX6_spells 91 = .ok (.istore 8, 2) := by decide +kernel
theorem dX6_spells_93 : decode cX6_spells 93 = .ok (.iload 7, 2) := by decide +kernel
theorem dX6_spells_95 : decode cX6_spells 95 = .ok (.bipush 32, 2) := by decide +kernel
theorem dX6_spells_97 : decode cX6_spells 97 = .ok (.if_icmp .eq 17, 3) := by decide +kernel
theorem dX6_spells_100 : decode cX6_spells 100 = .ok (.iload 8, 2) := by decide +kernel
theorem dX6_spells_102 : decode cX6_spells 102 = .ok (.iload 7, 2) := by decide +kernel
theorem dX6_spells_104 : decode cX6_spells 104 = .ok (.if_icmp .eq 12, 3) := by decide +kernel
theorem dX6_spells_107 : decode cX6_spells 107 = .ok (.iload 8, 2) := by decide +kernel
theorem dX6_spells_109 : decode cX6_spells 109 = .ok (.bipush 63, 2) := by decide +kernel
theorem dX6_spells_111 : decode cX6_spells 111 = .ok (.if_icmp .eq 5, 3) := by decide +kernel
theorem dX6_spells_114 : decode cX6_spells 114 = .ok (.iconst 0, 1) := by decide +kernel
theorem dX6_spells_115 : decode cX6_spells 115 = .ok (.ireturn, 1) := by decide +kernel
theorem dX6_spells_116 : decode cX6_spells 116 = .ok (.iinc 6 1, 3) := by decide +kernel
theorem dX6_spells_119 : decode cX6_spells 119 = .ok (.goto (-85), 3) := by decide +kernel
theorem dX6_spells_122 : decode cX6_spells 122 = .ok (.iconst 1, 1) := by decide +kernel
theorem dX6_spells_123 : decode cX6_spells 123 = .ok (.ireturn, 1) := by decide +kernel
theorem dX6_unitSign_0 : decode cX6_unitSign 0 = .ok (.iload_n 0, 1) := by decide +kernel
theorem dX6_unitSign_1 : decode cX6_unitSign 1 = .ok (.iconst 5, 1) := by decide +kernel
theorem dX6_unitSign_2 : decode cX6_unitSign 2 = .ok (.imul, 1) := by decide +kernel
theorem dX6_unitSign_3 : decode cX6_unitSign 3 = .ok (.iload_n 1, 1) := by decide +kernel
theorem dX6_unitSign_4 : decode cX6_unitSign 4 = .ok (.iadd, 1) := by decide +kernel
theorem dX6_unitSign_5 : decode cX6_unitSign 5 = .ok (.istore_n 2, 1) := by decide +kernel
theorem dX6_unitSign_6 : decode cX6_unitSign 6 = .ok (.iload_n 1, 1) := by decide +kernel
theorem dX6_unitSign_7 : decode cX6_unitSign 7 = .ok (.ifCond .lt 30, 3) := by decide +kernel
theorem dX6_unitSign_10 : decode cX6_unitSign 10 = .ok (.iload_n 1, 1) := by decide +kernel
theorem dX6_unitSign_11 : decode cX6_unitSign 11 = .ok (.iconst 5, 1) := by decide +kernel
theorem dX6_unitSign_12 : decode cX6_unitSign 12 = .ok (.if_icmp .ge 25, 3) := by decide +kernel
theorem dX6_unitSign_15 : decode cX6_unitSign 15 = .ok (.iload_n 2, 1) := by decide +kernel
theorem dX6_unitSign_16 : decode cX6_unitSign 16 = .ok (.ifCond .lt 21, 3) := by decide +kernel
theorem dX6_unitSign_19 : decode cX6_unitSign 19 = .ok (.iload_n 2, 1) := by decide +kernel
theorem dX6_unitSign_20 : decode cX6_unitSign 20 = .ok (.ldc 92, 2) := by decide +kernel
theorem dX6_unitSign_22 : decode cX6_unitSign 22 = .ok (.invokevirtual 94, 3) := by decide +kernel
theorem dX6_unitSign_25 : decode cX6_unitSign 25 = .ok (.if_icmp .ge 12, 3) := by decide +kernel
theorem dX6_unitSign_28 : decode cX6_unitSign 28 = .ok (.ldc 92, 2) := by decide +kernel
theorem dX6_unitSign_30 : decode cX6_unitSign 30 = .ok (.iload_n 2, 1) := by decide +kernel
theorem dX6_unitSign_31 : decode cX6_unitSign 31 = .ok (.invokevirtual 98, 3) := by decide +kernel
theorem dX6_unitSign_34 : decode cX6_unitSign 34 = .ok (.goto 5, 3) := by decide +kernel
theorem dX6_unitSign_37 : decode cX6_unitSign 37 = .ok (.bipush 32, 2) := by decide +kernel
theorem dX6_unitSign_39 : decode cX6_unitSign 39 = .ok (.ireturn, 1) := by decide +kernel
theorem dX7_init_0 : decode cX7_init 0 = .ok (.aload_n 0, 1) := by decide +kernel
theorem dX7_init_1 : decode cX7_init 1 = .ok (.invokespecial 3, 3) := by decide +kernel
theorem dX7_init_4 : decode cX7_init 4 = .ok (.aload_n 0, 1) := by decide +kernel
theorem dX7_init_5 : decode cX7_init 5 = .ok (.iconst 0, 1) := by decide +kernel
theorem dX7_init_6 : decode cX7_init 6 = .ok (.putfield 9, 3) := by decide +kernel
theorem dX7_init_9 : decode cX7_init 9 = .ok (.aload_n 0, 1) := by decide +kernel
theorem dX7_init_10 : decode cX7_init 10 = .ok (.bipush 16, 2) := by decide +kernel
theorem dX7_init_12 : decode cX7_init 12 = .ok (.newarray .int, 2) := by decide +kernel
theorem dX7_init_14 : decode cX7_init 14 = .ok (.putfield 15, 3) := by decide +kernel
theorem dX7_init_17 : decode cX7_init 17 = .ok (.aload_n 0, 1) := by decide +kernel
theorem dX7_init_18 : decode cX7_init 18 = .ok (.bipush 16, 2) := by decide +kernel
theorem dX7_init_20 : decode cX7_init 20 = .ok (.newarray .int, 2) := by decide +kernel
theorem dX7_init_22 : decode cX7_init 22 = .ok (.putfield 19, 3) := by decide +kernel
theorem dX7_init_25 : decode cX7_init 25 = .ok (.aload_n 0, 1) := by decide +kernel
theorem dX7_init_26 : decode cX7_init 26 = .ok (.bipush 16, 2) := by decide +kernel
theorem dX7_init_28 : decode cX7_init 28 = .ok (.newarray .int, 2) := by decide +kernel
theorem dX7_init_30 : decode cX7_init 30 = .ok (.putfield 22, 3) := by decide +kernel
theorem dX7_init_33 : decode cX7_init 33 = .ok (.aload_n 0, 1) := by decide +kernel
theorem dX7_init_34 : decode cX7_init 34 = .ok (.bipush 16, 2) := by decide +kernel
theorem dX7_init_36 : decode cX7_init 36 = .ok (.newarray .int, 2) := by decide +kernel
theorem dX7_init_38 : decode cX7_init 38 = .ok (.putfield 25, 3) := by decide +kernel
theorem dX7_init_41 : decode cX7_init 41 = .ok (.aload_n 0, 1) := by decide +kernel
theorem dX7_init_42 : decode cX7_init 42 = .ok (.bipush 16, 2) := by decide +kernel
theorem dX7_init_44 : decode cX7_init 44 = .ok (.newarray .int, 2) := by decide +kernel
theorem dX7_init_46 : decode cX7_init 46 = .ok (.putfield 28, 3) := by decide +kernel
theorem dX7_init_49 : decode cX7_init 49 = .ok (.aload_n 0, 1) := by decide +kernel
theorem dX7_init_50 : decode cX7_init 50 = .ok (.iconst 1, 1) := by decide +kernel
theorem dX7_init_51 : decode cX7_init 51 = .ok (.newarray .long, 2) := by decide +kernel
theorem dX7_init_53 : decode cX7_init 53 = .ok (.putfield 31, 3) := by decide +kernel
theorem dX7_init_56 : decode cX7_init 56 = .ok (.aload_n 0, 1) := by decide +kernel
theorem dX7_init_57 : decode cX7_init 57 = .ok (.iconst 1, 1) := by decide +kernel
theorem dX7_init_58 : decode cX7_init 58 = .ok (.newarray .byte, 2) := by decide +kernel
theorem dX7_init_60 : decode cX7_init 60 = .ok (.putfield 35, 3) := by decide +kernel
theorem dX7_init_63 : decode cX7_init 63 = .ok (.return_, 1) := by decide +kernel
theorem dX7_raise_0 : decode cX7_raise 0 = .ok (.aload_n 0, 1) := by decide +kernel
theorem dX7_raise_1 : decode cX7_raise 1 = .ok (.aload_n 1, 1) := by decide +kernel
theorem dX7_raise_2 : decode cX7_raise 2 = .ok (.iload_n 2, 1) := by decide +kernel
theorem dX7_raise_3 : decode cX7_raise 3 = .ok (.invokevirtual 39, 3) := by decide +kernel
theorem dX7_raise_6 : decode cX7_raise 6 = .ok (.aload_n 0, 1) := by decide +kernel
theorem dX7_raise_7 : decode cX7_raise 7 = .ok (.aload_n 1, 1) := by decide +kernel
theorem dX7_raise_8 : decode cX7_raise 8 = .ok (.aload_n 3, 1) := by decide +kernel
theorem dX7_raise_9 : decode cX7_raise 9 = .ok (.aload 4, 2) := by decide +kernel
theorem dX7_raise_11 : decode cX7_raise 11 = .ok (.invokevirtual 43, 3) := by decide +kernel
theorem dX7_raise_14 : decode cX7_raise 14 = .ok (.aload_n 0, 1) := by decide +kernel
theorem dX7_raise_15 : decode cX7_raise 15 = .ok (.invokevirtual 47, 3) := by decide +kernel
theorem dX7_raise_18 : decode cX7_raise 18 = .ok (.aload_n 0, 1) := by decide +kernel
theorem dX7_raise_19 : decode cX7_raise 19 = .ok (.invokevirtual 50, 3) := by decide +kernel
theorem dX7_raise_22 : decode cX7_raise 22 = .ok (.iconst 1, 1) := by decide +kernel
theorem dX7_raise_23 : decode cX7_raise 23 = .ok (.aload_n 0, 1) := by decide +kernel
theorem dX7_raise_24 : decode cX7_raise 24 = .ok (.getfield 9, 3) := by decide +kernel
theorem dX7_raise_27 : decode cX7_raise 27 = .ok (.ishl, 1) := by decide +kernel
theorem dX7_raise_28 : decode cX7_raise 28 = .ok (.iconst 1, 1) := by decide +kernel
theorem dX7_raise_29 : decode cX7_raise 29 = .ok (.isub, 1) := by decide +kernel
theorem dX7_raise_30 : decode cX7_raise 30 = .ok (.istore 5, 2) := by decide +kernel
theorem dX7_raise_32 : decode cX7_raise 32 = .ok (.aload_n 0, 1) := by decide +kernel
theorem dX7_raise_33 : decode cX7_raise 33 = .ok (.getfield 31, 3) := by decide +kernel
theorem dX7_raise_36 : decode cX7_raise 36 = .ok (.iload 5, 2) := by decide +kernel
theorem dX7_raise_38 : decode cX7_raise 38 = .ok (.laload, 1) := by decide +kernel
theorem dX7_raise_39 : decode cX7_raise 39 = .ok (.lconst 0, 1) := by decide +kernel
theorem dX7_raise_40 : decode cX7_raise 40 = .ok (.lcmp, 1) := by decide +kernel
theorem dX7_raise_41 : decode cX7_raise 41 = .ok (.ifCond .ne 11, 3) := by decide +kernel
theorem dX7_raise_44 : decode cX7_raise 44 = .ok (.aload_n 1, 1) := by decide +kernel
theorem dX7_raise_45 : decode cX7_raise 45 = .ok (.iload_n 2, 1) := by decide +kernel
theorem dX7_raise_46 : decode cX7_raise 46 = .ok (.iconst (-1), 1) := by decide +kernel
theorem dX7_raise_47 : decode cX7_raise 47 = .ok (.lconst 0, 1) := by decide +kernel
theorem dX7_raise_48 : decode cX7_raise 48 = .ok (.invokevirtual 53, 3) := by decide +kernel
theorem dX7_raise_51 : decode cX7_raise 51 = .ok (.return_, 1) := by decide +kernel
theorem dX7_raise_52 : decode cX7_raise 52 = .ok (.aload_n 0, 1) := by decide +kernel
theorem dX7_raise_53 : decode cX7_raise 53 = .ok (.getfield 31, 3) := by decide +kernel
theorem dX7_raise_56 : decode cX7_raise 56 = .ok (.iload 5, 2) := by decide +kernel
theorem dX7_raise_58 : decode cX7_raise 58 = .ok (.laload, 1) := by decide +kernel
theorem dX7_raise_59 : decode cX7_raise 59 = .ok (.lstore 6, 2) := by decide +kernel
theorem dX7_raise_61 : decode cX7_raise 61 = .ok (.aload_n 0, 1) := by decide +kernel
theorem dX7_raise_62 : decode cX7_raise 62 = .ok (.invokevirtual 59, 3) := by decide +kernel
theorem dX7_raise_65 : decode cX7_raise 65 = .ok (.aload_n 1, 1) := by decide +kernel
theorem dX7_raise_66 : decode cX7_raise 66 = .ok (.iload_n 2, 1) := by decide +kernel
theorem dX7_raise_67 : decode cX7_raise 67 = .ok (.aload_n 0, 1) := by decide +kernel
theorem dX7_raise_68 : decode cX7_raise 68 = .ok (.getfield 35, 3) := by decide +kernel
theorem dX7_raise_71 : decode cX7_raise 71 = .ok (.iconst 0, 1) := by decide +kernel
theorem dX7_raise_72 : decode cX7_raise 72 = .ok (.baload, 1) := by decide +kernel
theorem dX7_raise_73 : decode cX7_raise 73 = .ok (.lload 6, 2) := by decide +kernel
theorem dX7_raise_75 : decode cX7_raise 75 = .ok (.invokevirtual 53, 3) := by decide +kernel
theorem dX7_raise_78 : decode cX7_raise 78 = .ok (.aload_n 0, 1) := by decide +kernel
theorem dX7_raise_79 : decode cX7_raise 79 = .ok (.aload_n 1, 1) := by decide +kernel
theorem dX7_raise_80 : decode cX7_raise 80 = .ok (.iload_n 2, 1) := by decide +kernel
theorem dX7_raise_81 : decode cX7_raise 81 = .ok (.invokevirtual 62, 3) := by decide +kernel
theorem dX7_raise_84 : decode cX7_raise 84 = .ok (.return_, 1) := by decide +kernel
theorem dX7_take_0 : decode cX7_take 0 = .ok (.aload_n 0, 1) := by decide +kernel
theorem dX7_take_1 : decode cX7_take 1 = .ok (.iconst 0, 1) := by decide +kernel
theorem dX7_take_2 : decode cX7_take 2 = .ok (.putfield 9, 3) := by decide +kernel
theorem dX7_take_5 : decode cX7_take 5 = .ok (.iconst 0, 1) := by decide +kernel
theorem dX7_take_6 : decode cX7_take 6 = .ok (.istore_n 3, 1) := by decide +kernel
theorem dX7_take_7 : decode cX7_take 7 = .ok (.iload_n 3, 1) := by decide +kernel
theorem dX7_take_8 : decode cX7_take 8 = .ok (.bipush 16, 2) := by decide +kernel
theorem dX7_take_10 : decode cX7_take 10 = .ok (.if_icmp .ge 47, 3) := by decide +kernel
theorem dX7_take_13 : decode cX7_take 13 = .ok (.aload_n 0, 1) := by decide +kernel
theorem dX7_take_14 : decode cX7_take 14 = .ok (.getfield 9, 3) := by decide +kernel
theorem dX7_take_17 : decode cX7_take 17 = .ok (.bipush 16, 2) := by decide +kernel
theorem dX7_take_19 : decode cX7_take 19 = .ok (.if_icmp .ge 38, 3) := by decide +kernel
theorem dX7_take_22 : decode cX7_take 22 = .ok (.aload_n 1, 1) := by decide +kernel
theorem dX7_take_23 : decode cX7_take 23 = .ok (.iload_n 3, 1) := by decide +kernel
theorem dX7_take_24 : decode cX7_take 24 = .ok (.invokevirtual 65, 3) := by decide +kernel
theorem dX7_take_27 : decode cX7_take 27 = .ok (.iload_n 2, 1) := by decide +kernel
theorem dX7_take_28 : decode cX7_take 28 = .ok (.if_icmp .ne 23, 3) := by decide +kernel
theorem dX7_take_31 : decode cX7_take 31 = .ok (.aload_n 0, 1) := by decide +kernel
theorem dX7_take_32 : decode cX7_take 32 = .ok (.getfield 15, 3) := by decide +kernel
theorem dX7_take_35 : decode cX7_take 35 = .ok (.aload_n 0, 1) := by decide +kernel
theorem dX7_take_36 : decode cX7_take 36 = .ok (.getfield 9, 3) := by decide +kernel
theorem dX7_take_39 : decode cX7_take 39 = .ok (.iload_n 3, 1) := by decide +kernel
theorem dX7_take_40 : decode cX7_take 40 = .ok (.iastore, 1) := by decide +kernel
theorem dX7_take_41 : decode cX7_take 41 = .ok (.aload_n 0, 1) := by decide +kernel
theorem dX7_take_42 : decode cX7_take 42 = .ok (.dup, 1) := by decide +kernel
theorem dX7_take_43 : decode cX7_take 43 = .ok (.getfield 9, 3) := by decide +kernel
theorem dX7_take_46 : decode cX7_take 46 = .ok (.iconst 1, 1) := by decide +kernel
theorem dX7_take_47 : decode cX7_take 47 = .ok (.iadd, 1) := by decide +kernel
theorem dX7_take_48 : decode cX7_take 48 = .ok (.putfield 9, 3) := by decide +kernel
theorem dX7_take_51 : decode cX7_take 51 = .ok (.iinc 3 1, 3) := by decide +kernel
theorem dX7_take_54 : decode cX7_take 54 = .ok (.goto (-47), 3) := by decide +kernel
theorem dX7_take_57 : decode cX7_take 57 = .ok (.return_, 1) := by decide +kernel
theorem dX7_link_0 : decode cX7_link 0 = .ok (.iconst 0, 1) := by decide +kernel
theorem dX7_link_1 : decode cX7_link 1 = .ok (.istore 4, 2) := by decide +kernel
theorem dX7_link_3 : decode cX7_link 3 = .ok (.iload 4, 2) := by decide +kernel
theorem dX7_link_5 : decode cX7_link 5 = .ok (.aload_n 0, 1) := by decide +kernel
theorem dX7_link_6 : decode cX7_link 6 = .ok (.getfield 9, 3) := by decide +kernel
theorem dX7_link_9 : decode cX7_link 9 = .ok (.if_icmp .ge 168, 3) := by decide +kernel
theorem dX7_link_12 : decode cX7_link 12 = .ok (.aload_n 0, 1) := by decide +kernel
theorem dX7_link_13 : decode cX7_link 13 = .ok (.getfield 19, 3) := by decide +kernel
theorem dX7_link_16 : decode cX7_link 16 = .ok (.iload 4, 2) := by decide +kernel
theorem dX7_link_18 : decode cX7_link 18 = .ok (.iconst 0, 1) := by decide +kernel
theorem dX7_link_19 : decode cX7_link 19 = .ok (.iastore, 1) := by decide +kernel
theorem dX7_link_20 : decode cX7_link 20 = .ok (.aload_n 0, 1) := by decide +kernel
theorem dX7_link_21 : decode cX7_link 21 = .ok (.getfield 22, 3) := by decide +kernel
theorem dX7_link_24 : decode cX7_link 24 = .ok (.iload 4, 2) := by decide +kernel
theorem dX7_link_26 : decode cX7_link 26 = .ok (.iconst 0, 1) := by decide +kernel
theorem dX7_link_27 : decode cX7_link 27 = .ok (.iastore, 1) := by decide +kernel
theorem dX7_link_28 : decode cX7_link 28 = .ok (.iconst 0, 1) := by decide +kernel
theorem dX7_link_29 : decode cX7_link 29 = .ok (.istore 5, 2) := by decide +kernel
theorem dX7_link_31 : decode cX7_link 31 = .ok (.iload 5, 2) := by decide +kernel
theorem dX7_link_33 : decode cX7_link 33 = .ok (.aload_n 0, 1) := by decide +kernel
theorem dX7_link_34 : decode cX7_link 34 = .ok (.getfield 9, 3) := by decide +kernel
theorem dX7_link_37 : decode cX7_link 37 = .ok (.if_icmp .ge 91, 3) := by decide +kernel
theorem dX7_link_40 : decode cX7_link 40 = .ok (.aload_n 1, 1) := by decide +kernel
theorem dX7_link_41 : decode cX7_link 41 = .ok (.aload_n 0, 1) := by decide +kernel
theorem dX7_link_42 : decode cX7_link 42 = .ok (.getfield 15, 3) := by decide +kernel
theorem dX7_link_45 : decode cX7_link 45 = .ok (.iload 4, 2) := by decide +kernel
theorem dX7_link_47 : decode cX7_link 47 = .ok (.iaload, 1) := by decide +kernel
theorem dX7_link_48 : decode cX7_link 48 = .ok (.invokevirtual 69, 3) := by decide +kernel
theorem dX7_link_51 : decode cX7_link 51 = .ok (.aload_n 0, 1) := by decide +kernel
theorem dX7_link_52 : decode cX7_link 52 = .ok (.getfield 15, 3) := by decide +kernel
theorem dX7_link_55 : decode cX7_link 55 = .ok (.iload 5, 2) := by decide +kernel
theorem dX7_link_57 : decode cX7_link 57 = .ok (.iaload, 1) := by decide +kernel
theorem dX7_link_58 : decode cX7_link 58 = .ok (.ishr, 1) := by decide +kernel
theorem dX7_link_59 : decode cX7_link 59 = .ok (.iconst 1, 1) := by decide +kernel
theorem dX7_link_60 : decode cX7_link 60 = .ok (.iand, 1) := by decide +kernel
theorem dX7_link_61 : decode cX7_link 61 = .ok (.iconst 1, 1) := by decide +kernel
theorem dX7_link_62 : decode cX7_link 62 = .ok (.if_icmp .ne 60, 3) := by decide +kernel
theorem dX7_link_65 : decode cX7_link 65 = .ok (.aload_n 0, 1) := by decide +kernel
theorem dX7_link_66 : decode cX7_link 66 = .ok (.getfield 19, 3) := by decide +kernel
theorem dX7_link_69 : decode cX7_link 69 = .ok (.iload 4, 2) := by decide +kernel
theorem dX7_link_71 : decode cX7_link 71 = .ok (.dup2, 1) := by decide +kernel
theorem dX7_link_72 : decode cX7_link 72 = .ok (.iaload, 1) := by decide +kernel
theorem dX7_link_73 : decode cX7_link 73 = .ok (.iconst 1, 1) := by decide +kernel
theorem dX7_link_74 : decode cX7_link 74 = .ok (.iload 5, 2) := by decide +kernel
theorem dX7_link_76 : decode cX7_link 76 = .ok (.ishl, 1) := by decide +kernel
theorem dX7_link_77 : decode cX7_link 77 = .ok (.ior, 1) := by decide +kernel
theorem dX7_link_78 : decode cX7_link 78 = .ok (.iastore, 1) := by decide +kernel
theorem dX7_link_79 : decode cX7_link 79 = .ok (.aload_n 3, 1) := by decide +kernel
theorem dX7_link_80 : decode cX7_link 80 = .ok (.aload_n 2, 1) := by decide +kernel
theorem dX7_link_81 : decode cX7_link 81 = .ok (.aload_n 0, 1) := by decide +kernel
theorem dX7_link_82 : decode cX7_link 82 = .ok (.getfield 15, 3) := by decide +kernel
theorem dX7_link_85 : decode cX7_link 85 = .ok (.iload 5, 2) := by decide +kernel
theorem dX7_link_87 : decode cX7_link 87 = .ok (.iaload, 1) := by decide +kernel
theorem dX7_link_88 : decode cX7_link 88 = .ok (.invokevirtual 72, 3) := by decide +kernel
theorem dX7_link_91 : decode cX7_link 91 = .ok (.aload_n 2, 1) := by decide +kernel
theorem dX7_link_92 : decode cX7_link 92 = .ok (.aload_n 0, 1) := by decide +kernel
theorem dX7_link_93 : decode cX7_link 93 = .ok (.getfield 15, 3) := by decide +kernel
theorem dX7_link_96 : decode cX7_link 96 = .ok (.iload 4, 2) := by decide +kernel
theorem dX7_link_98 : decode cX7_link 98 = .ok (.iaload, 1) := by decide +kernel
theorem dX7_link_99 : decode cX7_link 99 = .ok (.invokevirtual 72, 3) := by decide +kernel
theorem dX7_link_102 : decode cX7_link 102 = .ok (.invokevirtual 77, 3) := by decide +kernel
theorem dX7_link_105 : decode cX7_link 105 = .ok (.ifCond .eq 17, 3) := by decide +kernel
theorem dX7_link_108 : decode cX7_link 108 = .ok (.aload_n 0, 1) := by decide +kernel
theorem dX7_link_109 : decode cX7_link 109 = .ok (.getfield 22, 3) := by decide +kernel
theorem dX7_link_112 : decode cX7_link 112 = .ok (.iload 4, 2) := by decide +kernel
theorem dX7_link_114 : decode cX7_link 114 = .ok (.dup2, 1) := by decide +kernel
theorem dX7_link_115 : decode cX7_link 115 = .ok (.iaload, 1) := by decide +kernel
theorem dX7_link_116 : decode cX7_link 116 = .ok (.iconst 1, 1) := by decide +kernel
theorem dX7_link_117 : decode cX7_link 117 = .ok (.iload 5, 2) := by decide +kernel
theorem dX7_link_119 : decode cX7_link 119 = .ok (.ishl, 1) := by decide +kernel
theorem dX7_link_120 : decode cX7_link 120 = .ok (.ior, 1) := by decide +kernel
theorem dX7_link_121 : decode cX7_link 121 = .ok (.iastore, 1) := by decide +kernel
theorem dX7_link_122 : decode cX7_link 122 = .ok (.iinc 5 1, 3) := by decide +kernel
theorem dX7_link_125 : decode cX7_link 125 = .ok (.goto (-94), 3) := by decide +kernel
theorem dX7_link_128 : decode cX7_link 128 = .ok (.aload_n 0, 1) := by decide +kernel
theorem dX7_link_129 : decode cX7_link 129 = .ok (.getfield 25, 3) := by decide +kernel
theorem dX7_link_132 : decode cX7_link 132 = .ok (.iload 4, 2) := by decide +kernel
theorem dX7_link_134 : decode cX7_link 134 = .ok (.aload_n 0, 1) := by decide +kernel
theorem dX7_link_135 : decode cX7_link 135 = .ok (.getfield 22, 3) := by decide +kernel
theorem dX7_link_138 : decode cX7_link 138 = .ok (.iload 4, 2) := by decide +kernel
theorem dX7_link_140 : decode cX7_link 140 = .ok (.iaload, 1) := by decide +kernel
theorem dX7_link_141 : decode cX7_link 141 = .ok (.iconst 1, 1) := by decide +kernel
theorem dX7_link_142 : decode cX7_link 142 = .ok (.iload 4, 2) := by decide +kernel
theorem dX7_link_144 : decode cX7_link 144 = .ok (.ishl, 1) := by decide +kernel
theorem dX7_link_145 : decode cX7_link 145 = .ok (.ior, 1) := by decide +kernel
theorem dX7_link_146 : decode cX7_link 146 = .ok (.iastore, 1) := by decide +kernel
theorem dX7_link_147 : decode cX7_link 147 = .ok (.aload_n 0, 1) := by decide +kernel
theorem dX7_link_148 : decode cX7_link 148 = .ok (.getfield 28, 3) := by decide +kernel
theorem dX7_link_151 : decode cX7_link 151 = .ok (.iload 4, 2) := by decide +kernel
theorem dX7_link_153 : decode cX7_link 153 = .ok (.aload_n 3, 1) := by decide +kernel
theorem dX7_link_154 : decode cX7_link 154 = .ok (.getfield 83, 3) := by decide +kernel
theorem dX7_link_157 : decode cX7_link 157 = .ok (.aload_n 0, 1) := by decide +kernel
theorem dX7_link_158 : decode cX7_link 158 = .ok (.getfield 19, 3) := by decide +kernel
theorem dX7_link_161 : decode cX7_link 161 = .ok (.iload 4, 2) := by decide +kernel
theorem dX7_link_163 : decode cX7_link 163 = .ok (.iaload, 1) := by decide +kernel
theorem dX7_link_164 : decode cX7_link 164 = .ok (.invokestatic 86, 3) := by decide +kernel
theorem dX7_link_167 : decode cX7_link 167 = .ok (.invokestatic 91, 3) := by decide +kernel
theorem dX7_link_170 : decode cX7_link 170 = .ok (.iastore, 1) := by decide +kernel
theorem dX7_link_171 : decode cX7_link 171 = .ok (.iinc 4 1, 3) := by decide +kernel
theorem dX7_link_174 : decode cX7_link 174 = .ok (.goto (-171), 3) := by decide +kernel
theorem dX7_link_177 : decode cX7_link 177 = .ok (.return_, 1) := by decide +kernel
theorem dX7_makeRoom_0 : decode cX7_makeRoom 0 = .ok (.aload_n 0, 1) := by decide +kernel
theorem dX7_makeRoom_1 : decode cX7_makeRoom 1 = .ok (.getfield 31, 3) := by decide +kernel
theorem dX7_makeRoom_4 : decode cX7_makeRoom 4 = .ok (.arraylength, 1) := by decide +kernel
theorem dX7_makeRoom_5 : decode cX7_makeRoom 5 = .ok (.iconst 1, 1) := by decide +kernel
theorem dX7_makeRoom_6 : decode cX7_makeRoom 6 = .ok (.aload_n 0, 1) := by decide +kernel
theorem dX7_makeRoom_7 : decode cX7_makeRoom 7 = .ok (.getfield 9, 3) := by decide +kernel
theorem dX7_makeRoom_10 : decode cX7_makeRoom 10 = .ok (.ishl, 1) := by decide +kernel
theorem dX7_makeRoom_11 : decode cX7_makeRoom 11 = .ok (.if_icmp .ge 27, 3) := by decide +kernel
theorem dX7_makeRoom_14 : decode cX7_makeRoom 14 = .ok (.aload_n 0, 1) := by decide +kernel
theorem dX7_makeRoom_15 : decode cX7_makeRoom 15 = .ok (.iconst 1, 1) := by decide +kernel
theorem dX7_makeRoom_16 : decode cX7_makeRoom 16 = .ok (.aload_n 0, 1) := by decide +kernel
theorem dX7_makeRoom_17 : decode cX7_makeRoom 17 = .ok (.getfield 9, 3) := by decide +kernel
theorem dX7_makeRoom_20 : decode cX7_makeRoom 20 = .ok (.ishl, 1) := by decide +kernel
theorem dX7_makeRoom_21 : decode cX7_makeRoom 21 = .ok (.newarray .long, 2) := by decide +kernel
theorem dX7_makeRoom_23 : decode cX7_makeRoom 23 = .ok (.putfield 31, 3) := by decide +kernel
theorem dX7_makeRoom_26 : decode cX7_makeRoom 26 = .ok (.aload_n 0, 1) := by decide +kernel
theorem dX7_makeRoom_27 : decode cX7_makeRoom 27 = .ok (.iconst 1, 1) := by decide +kernel
theorem dX7_makeRoom_28 : decode cX7_makeRoom 28 = .ok (.aload_n 0, 1) := by decide +kernel
theorem dX7_makeRoom_29 : decode cX7_makeRoom 29 = .ok (.getfield 9, 3) := by decide +kernel
theorem dX7_makeRoom_32 : decode cX7_makeRoom 32 = .ok (.ishl, 1) := by decide +kernel
theorem dX7_makeRoom_33 : decode cX7_makeRoom 33 = .ok (.newarray .byte, 2) := by decide +kernel
theorem dX7_makeRoom_35 : decode cX7_makeRoom 35 = .ok (.putfield 35, 3) := by decide +kernel
theorem dX7_makeRoom_38 : decode cX7_makeRoom 38 = .ok (.return_, 1) := by decide +kernel
theorem dX7_countWays_0 : decode cX7_countWays 0 = .ok (.iconst 1, 1) := by decide +kernel
theorem dX7_countWays_1 : decode cX7_countWays 1 = .ok (.aload_n 0, 1) := by decide +kernel
theorem dX7_countWays_2 : decode cX7_countWays 2 = .ok (.getfield 9, 3) := by decide +kernel
theorem dX7_countWays_5 : decode cX7_countWays 5 = .ok (.ishl, 1) := by decide +kernel
theorem dX7_countWays_6 : decode cX7_countWays 6 = .ok (.istore_n 1, 1) := by decide +kernel
theorem dX7_countWays_7 : decode cX7_countWays 7 = .ok (.iconst 0, 1) := by decide +kernel
theorem dX7_countWays_8 : decode cX7_countWays 8 = .ok (.istore_n 2, 1) := by decide +kernel
theorem dX7_countWays_9 : decode cX7_countWays 9 = .ok (.iload_n 2, 1) := by decide +kernel
theorem dX7_countWays_10 : decode cX7_countWays 10 = .ok (.iload_n 1, 1) := by decide +kernel
theorem dX7_countWays_11 : decode cX7_countWays 11 = .ok (.if_icmp .ge 16, 3) := by decide +kernel
theorem dX7_countWays_14 : decode cX7_countWays 14 = .ok (.aload_n 0, 1) := by decide +kernel
theorem dX7_countWays_15 : decode cX7_countWays 15 = .ok (.getfield 31, 3) := by decide +kernel
theorem dX7_countWays_18 : decode cX7_countWays 18 = .ok (.iload_n 2, 1) := by decide +kernel
theorem dX7_countWays_19 : decode cX7_countWays 19 = .ok (.lconst 0, 1) := by decide +kernel
theorem dX7_countWays_20 : decode cX7_countWays 20 = .ok (.lastore, 1) := by decide +kernel
theorem dX7_countWays_21 : decode cX7_countWays 21 = .ok (.iinc 2 1, 3) := by decide +kernel
theorem dX7_countWays_24 : decode cX7_countWays 24 = .ok (.goto (-15), 3) := by decide +kernel
theorem dX7_countWays_27 : decode cX7_countWays 27 = .ok (.aload_n 0, 1) := by decide +kernel
theorem dX7_countWays_28 : decode cX7_countWays 28 = .ok (.getfield 31, 3) := by decide +kernel
theorem dX7_countWays_31 : decode cX7_countWays 31 = .ok (.iconst 0, 1) := by decide +kernel
theorem dX7_countWays_32 : decode cX7_countWays 32 = .ok (.lconst 1, 1) := by decide +kernel
theorem dX7_countWays_33 : decode cX7_countWays 33 = .ok (.lastore, 1) := by decide +kernel
theorem dX7_countWays_34 : decode cX7_countWays 34 = .ok (.iconst 0, 1) := by decide +kernel
theorem dX7_countWays_35 : decode cX7_countWays 35 = .ok (.istore_n 2, 1) := by decide +kernel
theorem dX7_countWays_36 : decode cX7_countWays 36 = .ok (.iload_n 2, 1) := by decide +kernel
theorem dX7_countWays_37 : decode cX7_countWays 37 = .ok (.iload_n 1, 1) := by decide +kernel
theorem dX7_countWays_38 : decode cX7_countWays 38 = .ok (.if_icmp .ge 75, 3) := by decide +kernel
theorem dX7_countWays_41 : decode cX7_countWays 41 = .ok (.aload_n 0, 1) := by decide +kernel
theorem dX7_countWays_42 : decode cX7_countWays 42 = .ok (.getfield 31, 3) := by decide +kernel
theorem dX7_countWays_45 : decode cX7_countWays 45 = .ok (.iload_n 2, 1) := by decide +kernel
theorem dX7_countWays_46 : decode cX7_countWays 46 = .ok (.laload, 1) := by decide +kernel
theorem dX7_countWays_47 : decode cX7_countWays 47 = .ok (.lconst 0, 1) := by decide +kernel
theorem dX7_countWays_48 : decode cX7_countWays 48 = .ok (.lcmp, 1) := by decide +kernel
theorem dX7_countWays_49 : decode cX7_countWays 49 = .ok (.ifCond .ne 6, 3) := by decide +kernel
theorem dX7_countWays_52 : decode cX7_countWays 52 = .ok (.goto 55, 3) := by decide +kernel
theorem dX7_countWays_55 : decode cX7_countWays 55 = .ok (.iconst 0, 1) := by decide +kernel
theorem dX7_countWays_56 : decode cX7_countWays 56 = .ok (.istore_n 3, 1) := by decide +kernel
theorem dX7_countWays_57 : decode cX7_countWays 57 = .ok (.iload_n 3, 1) := by decide +kernel
theorem dX7_countWays_58 : decode cX7_countWays 58 = .ok (.aload_n 0, 1) := by decide +kernel
theorem dX7_countWays_59 : decode cX7_countWays 59 = .ok (.getfield 9, 3) := by decide +kernel
theorem dX7_countWays_62 : decode cX7_countWays 62 = .ok (.if_icmp .ge 45, 3) := by decide +kernel
theorem dX7_countWays_65 : decode cX7_countWays 65 = .ok (.iload_n 2, 1) := by decide +kernel
theorem dX7_countWays_66 : decode cX7_countWays 66 = .ok (.aload_n 0, 1) := by decide +kernel
theorem dX7_countWays_67 : decode cX7_countWays 67 = .ok (.getfield 25, 3) := by decide +kernel
theorem dX7_countWays_70 : decode cX7_countWays 70 = .ok (.iload_n 3, 1) := by decide +kernel
theorem dX7_countWays_71 : decode cX7_countWays 71 = .ok (.iaload, 1) := by decide +kernel
theorem dX7_countWays_72 : decode cX7_countWays 72 = .ok (.iand, 1) := by decide +kernel
theorem dX7_countWays_73 : decode cX7_countWays 73 = .ok (.aload_n 0, 1) := by decide +kernel
theorem dX7_countWays_74 : decode cX7_countWays 74 = .ok (.getfield 22, 3) := by decide +kernel
theorem dX7_countWays_77 : decode cX7_countWays 77 = .ok (.iload_n 3, 1) := by decide +kernel
theorem dX7_countWays_78 : decode cX7_countWays 78 = .ok (.iaload, 1) := by decide +kernel
theorem dX7_countWays_79 : decode cX7_countWays 79 = .ok (.if_icmp .ne 22, 3) := by decide +kernel
theorem dX7_countWays_82 : decode cX7_countWays 82 = .ok (.aload_n 0, 1) := by decide +kernel
theorem dX7_countWays_83 : decode cX7_countWays 83 = .ok (.getfield 31, 3) := by decide +kernel
theorem dX7_countWays_86 : decode cX7_countWays 86 = .ok (.iload_n 2, 1) := by decide +kernel
theorem dX7_countWays_87 : decode cX7_countWays 87 = .ok (.iconst 1, 1) := by decide +kernel
theorem dX7_countWays_88 : decode cX7_countWays 88 = .ok (.iload_n 3, 1) := by decide +kernel
theorem dX7_countWays_89 : decode cX7_countWays 89 = .ok (.ishl, 1) := by decide +kernel
theorem dX7_countWays_90 : decode cX7_countWays 90 = .ok (.ior, 1) := by decide +kernel
theorem dX7_countWays_91 : decode cX7_countWays 91 = .ok (.dup2, 1) := by decide +kernel
theorem dX7_countWays_92 : decode cX7_countWays 92 = .ok (.laload, 1) := by decide +kernel
theorem dX7_countWays_93 : decode cX7_countWays 93 = .ok (.aload_n 0, 1) := by decide +kernel
theorem dX7_countWays_94 : decode cX7_countWays 94 = .ok (.getfield 31, 3) := by decide +kernel
theorem dX7_countWays_97 : decode cX7_countWays 97 = .ok (.iload_n 2, 1) := by decide +kernel
theorem dX7_countWays_98 : decode cX7_countWays 98 = .ok (.laload, 1) := by decide +kernel
theorem dX7_countWays_99 : decode cX7_countWays 99 = .ok (.ladd, 1) := by decide +kernel
theorem dX7_countWays_100 : decode cX7_countWays 100 = .ok (.lastore, 1) := by decide +kernel
theorem dX7_countWays_101 : decode cX7_countWays 101 = .ok (.iinc 3 1, 3) := by decide +kernel
theorem dX7_countWays_104 : decode cX7_countWays 104 = .ok (.goto (-47), 3) := by decide +kernel
theorem dX7_countWays_107 : decode cX7_countWays 107 = .ok (.iinc 2 1, 3) := by decide +kernel
theorem dX7_countWays_110 : decode cX7_countWays 110 = .ok (.goto (-74), 3) := by decide +kernel
theorem dX7_countWays_113 : decode cX7_countWays 113 = .ok (.return_, 1) := by decide +kernel
theorem dX7_measureWorst_0 : decode cX7_measureWorst 0 = .ok (.iconst 1, 1) := by decide +kernel
theorem dX7_measureWorst_1 : decode cX7_measureWorst 1 = .ok (.aload_n 0, 1) := by decide +kernel
theorem dX7_measureWorst_2 : decode cX7_measureWorst 2 = .ok (.getfield 9, 3) := by decide +kernel
theorem dX7_measureWorst_5 : decode cX7_measureWorst 5 = .ok (.ishl, 1) := by decide +kernel
theorem dX7_measureWorst_6 : decode cX7_measureWorst 6 = .ok (.iconst 1, 1) := by decide +kernel
theorem dX7_measureWorst_7 : decode cX7_measureWorst 7 = .ok (.isub, 1) := by decide +kernel
theorem dX7_measureWorst_8 : decode cX7_measureWorst 8 = .ok (.istore_n 1, 1) := by decide +kernel
theorem dX7_measureWorst_9 : decode cX7_measureWorst 9 = .ok (.aload_n 0, 1) := by decide +kernel
theorem dX7_measureWorst_10 : decode cX7_measureWorst 10 = .ok (.getfield 35, 3) := by decide +kernel
theorem dX7_measureWorst_13 : decode cX7_measureWorst 13 = .ok (.iload_n 1, 1) := by decide +kernel
theorem dX7_measureWorst_14 : decode cX7_measureWorst 14 = .ok (.iconst 0, 1) := by decide +kernel
theorem dX7_measureWorst_15 : decode cX7_measureWorst 15 = .ok (.bastore, 1) := by decide +kernel
theorem dX7_measureWorst_16 : decode cX7_measureWorst 16 = .ok (.iload_n 1, 1) := by decide +kernel
theorem dX7_measureWorst_17 : decode cX7_measureWorst 17 = .ok (.iconst 1, 1) := by decide +kernel
theorem dX7_measureWorst_18 : decode cX7_measureWorst 18 = .ok (.isub, 1) := by decide +kernel
theorem dX7_measureWorst_19 : decode cX7_measureWorst 19 = .ok (.istore_n 2, 1) := by decide +kernel
theorem dX7_measureWorst_20 : decode cX7_measureWorst 20 = .ok (.iload_n 2, 1) := by decide +kernel
theorem dX7_measureWorst_21 : decode cX7_measureWorst 21 = .ok (.ifCond .lt 106, 3) := by decide +kernel
theorem dX7_measureWorst_24 : decode cX7_measureWorst 24 = .ok (.aload_n 0, 1) := by decide +kernel
theorem dX7_measureWorst_25 : decode cX7_measureWorst 25 = .ok (.getfield 31, 3) := by decide +kernel
theorem dX7_measureWorst_28 : decode cX7_measureWorst 28 = .ok (.iload_n 2, 1) := by decide +kernel
theorem dX7_measureWorst_29 : decode cX7_measureWorst 29 = .ok (.laload, 1) := by decide +kernel
theorem dX7_measureWorst_30 : decode cX7_measureWorst 30 = .ok (.lconst 0, 1) := by decide +kernel
theorem dX7_measureWorst_31 : decode cX7_measureWorst 31 = .ok (.lcmp, 1) := by decide +kernel
theorem dX7_measureWorst_32 : decode cX7_measureWorst 32 = .ok (.ifCond .ne 6, 3) := by decide +kernel
theorem dX7_measureWorst_35 : decode cX7_measureWorst 35 = .ok (.goto 86, 3) := by decide +kernel
theorem dX7_measureWorst_38 : decode cX7_measureWorst 38 = .ok (.bipush 16, 2) := by decide +kernel
theorem dX7_measureWorst_40 : decode cX7_measureWorst 40 = .ok (.istore_n 3, 1) := by decide +kernel
theorem dX7_measureWorst_41 : decode cX7_measureWorst 41 = .ok (.iconst 0, 1) := by decide +kernel
theorem dX7_measureWorst_42 : decode cX7_measureWorst 42 = .ok (.istore 4, 2) := by decide +kernel
theorem dX7_measureWorst_44 : decode cX7_measureWorst 44 = .ok (.iload 4, 2) := by decide +kernel
theorem dX7_measureWorst_46 : decode cX7_measureWorst 46 = .ok (.aload_n 0, 1) := by decide +kernel
theorem dX7_measureWorst_47 : decode cX7_measureWorst 47 = .ok (.getfield 9, 3) := by decide +kernel
theorem dX7_measureWorst_50 : decode cX7_measureWorst 50 = .ok (.if_icmp .ge 55, 3) := by decide +kernel
theorem dX7_measureWorst_53 : decode cX7_measureWorst 53 = .ok (.iload_n 2, 1) := by decide +kernel
theorem dX7_measureWorst_54 : decode cX7_measureWorst 54 = .ok (.aload_n 0, 1) := by decide +kernel
theorem dX7_measureWorst_55 : decode cX7_measureWorst 55 = .ok (.getfield 25, 3) := by decide +kernel
theorem dX7_measureWorst_58 : decode cX7_measureWorst 58 = .ok (.iload 4, 2) := by decide +kernel
theorem dX7_measureWorst_60 : decode cX7_measureWorst 60 = .ok (.iaload, 1) := by decide +kernel
theorem dX7_measureWorst_61 : decode cX7_measureWorst 61 = .ok (.iand, 1) := by decide +kernel
theorem dX7_measureWorst_62 : decode cX7_measureWorst 62 = .ok (.aload_n 0, 1) := by decide +kernel
theorem dX7_measureWorst_63 : decode cX7_measureWorst 63 = .ok (.getfield 22, 3) := by decide +kernel
theorem dX7_measureWorst_66 : decode cX7_measureWorst 66 = .ok (.iload 4, 2) := by decide +kernel
theorem dX7_measureWorst_68 : decode cX7_measureWorst 68 = .ok (.iaload, 1) := by decide +kernel
theorem dX7_measureWorst_69 : decode cX7_measureWorst 69 = .ok (.if_icmp .ne 30, 3) := by decide +kernel
theorem dX7_measureWorst_72 : decode cX7_measureWorst 72 = .ok (.aload_n 0, 1) := by decide +kernel
theorem dX7_measureWorst_73 : decode cX7_measureWorst 73 = .ok (.getfield 35, 3) := by decide +kernel
theorem dX7_measureWorst_76 : decode cX7_measureWorst 76 = .ok (.iload_n 2, 1) := by decide +kernel
theorem dX7_measureWorst_77 : decode cX7_measureWorst 77 = .ok (.iconst 1, 1) := by decide +kernel
theorem dX7_measureWorst_78 : decode cX7_measureWorst 78 = .ok (.iload 4, 2) := by decide +kernel
theorem dX7_measureWorst_80 : decode cX7_measureWorst 80 = .ok (.ishl, 1) := by decide +kernel
theorem dX7_measureWorst_81 : decode cX7_measureWorst 81 = .ok (.ior, 1) := by decide +kernel
theorem dX7_measureWorst_82 : decode cX7_measureWorst 82 = .ok (.baload, 1) := by decide +kernel
theorem dX7_measureWorst_83 : decode cX7_measureWorst 83 = .ok (.iload_n 3, 1) := by decide +kernel
theorem dX7_measureWorst_84 : decode cX7_measureWorst 84 = .ok (.if_icmp .ge 15, 3) := by decide +kernel
theorem dX7_measureWorst_87 : decode cX7_measureWorst 87 = .ok (.aload_n 0, 1) := by decide +kernel
theorem dX7_measureWorst_88 : decode cX7_measureWorst 88 = .ok (.getfield 35, 3) := by decide +kernel
theorem dX7_measureWorst_91 : decode cX7_measureWorst 91 = .ok (.iload_n 2, 1) := by decide +kernel
theorem dX7_measureWorst_92 : decode cX7_measureWorst 92 = .ok (.iconst 1, 1) := by decide +kernel
theorem dX7_measureWorst_93 : decode cX7_measureWorst 93 = .ok (.iload 4, 2) := by decide +kernel
theorem dX7_measureWorst_95 : decode cX7_measureWorst 95 = .ok (.ishl, 1) := by decide +kernel
theorem dX7_measureWorst_96 : decode cX7_measureWorst 96 = .ok (.ior, 1) := by decide +kernel
theorem dX7_measureWorst_97 : decode cX7_measureWorst 97 = .ok (.baload, 1) := by decide +kernel
theorem dX7_measureWorst_98 : decode cX7_measureWorst 98 = .ok (.istore_n 3, 1) := by decide +kernel
theorem dX7_measureWorst_99 : decode cX7_measureWorst 99 = .ok (.iinc 4 1, 3) := by decide +kernel
theorem dX7_measureWorst_102 : decode cX7_measureWorst 102 = .ok (.goto (-58), 3) := by decide +kernel
theorem dX7_measureWorst_105 : decode cX7_measureWorst 105 = .ok (.aload_n 0, 1) := by decide +kernel
theorem dX7_measureWorst_106 : decode cX7_measureWorst 106 = .ok (.getfield 35, 3) := by decide +kernel
theorem dX7_measureWorst_109 : decode cX7_measureWorst 109 = .ok (.iload_n 2, 1) := by decide +kernel
theorem dX7_measureWorst_110 : decode cX7_measureWorst 110 = .ok (.iload_n 3, 1) := by decide +kernel
theorem dX7_measureWorst_111 : decode cX7_measureWorst 111 = .ok (.aload_n 0, 1) := by decide +kernel
theorem dX7_measureWorst_112 : decode cX7_measureWorst 112 = .ok (.iload_n 2, 1) := by decide +kernel
theorem dX7_measureWorst_113 : decode cX7_measureWorst 113 = .ok (.invokevirtual 97, 3) := by decide +kernel
theorem dX7_measureWorst_116 : decode cX7_measureWorst 116 = .ok (.invokestatic 100, 3) := by decide +kernel
theorem dX7_measureWorst_119 : decode cX7_measureWorst 119 = .ok (.i2b, 1) := by decide +kernel
theorem dX7_measureWorst_120 : decode cX7_measureWorst 120 = .ok (.bastore, 1) := by decide +kernel
theorem dX7_measureWorst_121 : decode cX7_measureWorst 121 = .ok (.iinc 2 (-1), 3) := by decide +kernel
theorem dX7_measureWorst_124 : decode cX7_measureWorst 124 = .ok (.goto (-104), 3) := by decide +kernel
theorem dX7_measureWorst_127 : decode cX7_measureWorst 127 = .ok (.return_, 1) := by decide +kernel
theorem dX7_props_0 : decode cX7_props 0 = .ok (.iconst 0, 1) := by decide +kernel
theorem dX7_props_1 : decode cX7_props 1 = .ok (.istore_n 2, 1) := by decide +kernel
theorem dX7_props_2 : decode cX7_props 2 = .ok (.iconst 0, 1) := by decide +kernel
theorem dX7_props_3 : decode cX7_props 3 = .ok (.istore_n 3, 1) := by decide +kernel
theorem dX7_props_4 : decode cX7_props 4 = .ok (.iload_n 3, 1) := by decide +kernel
theorem dX7_props_5 : decode cX7_props 5 = .ok (.aload_n 0, 1) := by decide +kernel
theorem dX7_props_6 : decode cX7_props 6 = .ok (.getfield 9, 3) := by decide +kernel
theorem dX7_props_9 : decode cX7_props 9 = .ok (.if_icmp .ge 41, 3) := by decide +kernel
theorem dX7_props_12 : decode cX7_props 12 = .ok (.iload_n 1, 1) := by decide +kernel
theorem dX7_props_13 : decode cX7_props 13 = .ok (.iload_n 3, 1) := by decide +kernel
theorem dX7_props_14 : decode cX7_props 14 = .ok (.ishr, 1) := by decide +kernel
theorem dX7_props_15 : decode cX7_props 15 = .ok (.iconst 1, 1) := by decide +kernel
theorem dX7_props_16 : decode cX7_props 16 = .ok (.iand, 1) := by decide +kernel
theorem dX7_props_17 : decode cX7_props 17 = .ok (.iconst 1, 1) := by decide +kernel
theorem dX7_props_18 : decode cX7_props 18 = .ok (.if_icmp .ne 26, 3) := by decide +kernel
theorem dX7_props_21 : decode cX7_props 21 = .ok (.aload_n 0, 1) := by decide +kernel
theorem dX7_props_22 : decode cX7_props 22 = .ok (.getfield 19, 3) := by decide +kernel
theorem dX7_props_25 : decode cX7_props 25 = .ok (.iload_n 3, 1) := by decide +kernel
theorem dX7_props_26 : decode cX7_props 26 = .ok (.iaload, 1) := by decide +kernel
theorem dX7_props_27 : decode cX7_props 27 = .ok (.iload_n 1, 1) := by decide +kernel
theorem dX7_props_28 : decode cX7_props 28 = .ok (.iand, 1) := by decide +kernel
theorem dX7_props_29 : decode cX7_props 29 = .ok (.invokestatic 86, 3) := by decide +kernel
theorem dX7_props_32 : decode cX7_props 32 = .ok (.aload_n 0, 1) := by decide +kernel
theorem dX7_props_33 : decode cX7_props 33 = .ok (.getfield 28, 3) := by decide +kernel
theorem dX7_props_36 : decode cX7_props 36 = .ok (.iload_n 3, 1) := by decide +kernel
theorem dX7_props_37 : decode cX7_props 37 = .ok (.iaload, 1) := by decide +kernel
theorem dX7_props_38 : decode cX7_props 38 = .ok (.if_icmp .ge 6, 3) := by decide +kernel
theorem dX7_props_41 : decode cX7_props 41 = .ok (.iinc 2 1, 3) := by decide +kernel
theorem dX7_props_44 : decode cX7_props 44 = .ok (.iinc 3 1, 3) := by decide +kernel
theorem dX7_props_47 : decode cX7_props 47 = .ok (.goto (-43), 3) := by decide +kernel
theorem dX7_props_50 : decode cX7_props 50 = .ok (.iload_n 2, 1) := by decide +kernel
theorem dX7_props_51 : decode cX7_props 51 = .ok (.ireturn, 1) := by decide +kernel
theorem dX7_keepSteps_0 : decode cX7_keepSteps 0 = .ok (.iconst 0, 1) := by decide +kernel
theorem dX7_keepSteps_1 : decode cX7_keepSteps 1 = .ok (.istore_n 3, 1) := by decide +kernel
theorem dX7_keepSteps_2 : decode cX7_keepSteps 2 = .ok (.iconst 0, 1) := by decide +kernel
theorem dX7_keepSteps_3 : decode cX7_keepSteps 3 = .ok (.istore 4, 2) := by decide +kernel
theorem dX7_keepSteps_5 : decode cX7_keepSteps 5 = .ok (.iload 4, 2) := by decide +kernel
theorem dX7_keepSteps_7 : decode cX7_keepSteps 7 = .ok (.aload_n 0, 1) := by decide +kernel
theorem dX7_keepSteps_8 : decode cX7_keepSteps 8 = .ok (.getfield 9, 3) := by decide +kernel
theorem dX7_keepSteps_11 : decode cX7_keepSteps 11 = .ok (.if_icmp .ge 90, 3) := by decide +kernel
theorem dX7_keepSteps_14 : decode cX7_keepSteps 14 = .ok (.iconst 0, 1) := by decide +kernel
theorem dX7_keepSteps_15 : decode cX7_keepSteps 15 = .ok (.istore 5, 2) := by decide +kernel
theorem dX7_keepSteps_17 : decode cX7_keepSteps 17 = .ok (.iload 5, 2) := by decide +kernel
theorem dX7_keepSteps_19 : decode cX7_keepSteps 19 = .ok (.aload_n 0, 1) := by decide +kernel
theorem dX7_keepSteps_20 : decode cX7_keepSteps 20 = .ok (.getfield 9, 3) := by decide +kernel
theorem dX7_keepSteps_23 : decode cX7_keepSteps 23 = .ok (.if_icmp .ge 72, 3) := by decide +kernel
theorem dX7_keepSteps_26 : decode cX7_keepSteps 26 = .ok (.iload_n 3, 1) := by decide +kernel
theorem dX7_keepSteps_27 : decode cX7_keepSteps 27 = .ok (.aload_n 0, 1) := by decide +kernel
theorem dX7_keepSteps_28 : decode cX7_keepSteps 28 = .ok (.getfield 25, 3) := by decide +kernel
theorem dX7_keepSteps_31 : decode cX7_keepSteps 31 = .ok (.iload 5, 2) := by decide +kernel
theorem dX7_keepSteps_33 : decode cX7_keepSteps 33 = .ok (.iaload, 1) := by decide +kernel
theorem dX7_keepSteps_34 : decode cX7_keepSteps 34 = .ok (.iand, 1) := by decide +kernel
theorem dX7_keepSteps_35 : decode cX7_keepSteps 35 = .ok (.aload_n 0, 1) := by decide +kernel
theorem dX7_keepSteps_36 : decode cX7_keepSteps 36 = .ok (.getfield 22, 3) := by decide +kernel
theorem dX7_keepSteps_39 : decode cX7_keepSteps 39 = .ok (.iload 5, 2) := by decide +kernel
theorem dX7_keepSteps_41 : decode cX7_keepSteps 41 = .ok (.iaload, 1) := by decide +kernel
theorem dX7_keepSteps_42 : decode cX7_keepSteps 42 = .ok (.if_icmp .ne 47, 3) := by decide +kernel
theorem dX7_keepSteps_45 : decode cX7_keepSteps 45 = .ok (.aload_n 0, 1) := by decide +kernel
theorem dX7_keepSteps_46 : decode cX7_keepSteps 46 = .ok (.getfield 35, 3) := by decide +kernel
theorem dX7_keepSteps_49 : decode cX7_keepSteps 49 = .ok (.iload_n 3, 1) := by decide +kernel
theorem dX7_keepSteps_50 : decode cX7_keepSteps 50 = .ok (.iconst 1, 1) := by decide +kernel
theorem dX7_keepSteps_51 : decode cX7_keepSteps 51 = .ok (.iload 5, 2) := by decide +kernel
theorem dX7_keepSteps_53 : decode cX7_keepSteps 53 = .ok (.ishl, 1) := by decide +kernel
theorem dX7_keepSteps_54 : decode cX7_keepSteps 54 = .ok (.ior, 1) := by decide +kernel
theorem dX7_keepSteps_55 : decode cX7_keepSteps 55 = .ok (.baload, 1) := by decide +kernel
theorem dX7_keepSteps_56 : decode cX7_keepSteps 56 = .ok (.aload_n 0, 1) := by decide +kernel
theorem dX7_keepSteps_57 : decode cX7_keepSteps 57 = .ok (.getfield 35, 3) := by decide +kernel
theorem dX7_keepSteps_60 : decode cX7_keepSteps 60 = .ok (.iconst 0, 1) := by decide +kernel
theorem dX7_keepSteps_61 : decode cX7_keepSteps 61 = .ok (.baload, 1) := by decide +kernel
theorem dX7_keepSteps_62 : decode cX7_keepSteps 62 = .ok (.if_icmp .gt 27, 3) := by decide +kernel
theorem dX7_keepSteps_65 : decode cX7_keepSteps 65 = .ok (.aload_n 1, 1) := by decide +kernel
theorem dX7_keepSteps_66 : decode cX7_keepSteps 66 = .ok (.iload_n 2, 1) := by decide +kernel
theorem dX7_keepSteps_67 : decode cX7_keepSteps 67 = .ok (.iload 4, 2) := by decide +kernel
theorem dX7_keepSteps_69 : decode cX7_keepSteps 69 = .ok (.aload_n 0, 1) := by decide +kernel
theorem dX7_keepSteps_70 : decode cX7_keepSteps 70 = .ok (.getfield 15, 3) := by decide +kernel
theorem dX7_keepSteps_73 : decode cX7_keepSteps 73 = .ok (.iload 5, 2) := by decide +kernel
theorem dX7_keepSteps_75 : decode cX7_keepSteps 75 = .ok (.iaload, 1) := by decide +kernel
theorem dX7_keepSteps_76 : decode cX7_keepSteps 76 = .ok (.invokevirtual 103, 3) := by decide +kernel
theorem dX7_keepSteps_79 : decode cX7_keepSteps 79 = .ok (.iload_n 3, 1) := by decide +kernel
theorem dX7_keepSteps_80 : decode cX7_keepSteps 80 = .ok (.iconst 1, 1) := by decide +kernel
theorem dX7_keepSteps_81 : decode cX7_keepSteps 81 = .ok (.iload 5, 2) := by decide +kernel
theorem dX7_keepSteps_83 : decode cX7_keepSteps 83 = .ok (.ishl, 1) := by decide +kernel
theorem dX7_keepSteps_84 : decode cX7_keepSteps 84 = .ok (.ior, 1) := by decide +kernel
theorem dX7_keepSteps_85 : decode cX7_keepSteps 85 = .ok (.istore_n 3, 1) := by decide +kernel
theorem dX7_keepSteps_86 : decode cX7_keepSteps 86 = .ok (.goto 9, 3) := by decide +kernel
theorem dX7_keepSteps_89 : decode cX7_keepSteps 89 = .ok (.iinc 5 1, 3) := by decide +kernel
theorem dX7_keepSteps_92 : decode cX7_keepSteps 92 = .ok (.goto (-75), 3) := by decide +kernel
theorem dX7_keepSteps_95 : decode cX7_keepSteps 95 = .ok (.iinc 4 1, 3) := by decide +kernel
theorem dX7_keepSteps_98 : decode cX7_keepSteps 98 = .ok (.goto (-93), 3) := by decide +kernel
theorem dX7_keepSteps_101 : decode cX7_keepSteps 101 = .ok (.return_, 1) := by decide +kernel
theorem dX8_init_0 : decode cX8_init 0 = .ok (.aload_n 0, 1) := by decide +kernel
theorem dX8_init_1 : decode cX8_init 1 = .ok (.invokespecial 3, 3) := by decide +kernel
theorem dX8_init_4 : decode cX8_init 4 = .ok (.aload_n 0, 1) := by decide +kernel
theorem dX8_init_5 : decode cX8_init 5 = .ok (.sipush 200, 3) := by decide +kernel
theorem dX8_init_8 : decode cX8_init 8 = .ok (.newarray .int, 2) := by decide +kernel
theorem dX8_init_10 : decode cX8_init 10 = .ok (.putfield 11, 3) := by decide +kernel
theorem dX8_init_13 : decode cX8_init 13 = .ok (.aload_n 0, 1) := by decide +kernel
theorem dX8_init_14 : decode cX8_init 14 = .ok (.bipush 16, 2) := by decide +kernel
theorem dX8_init_16 : decode cX8_init 16 = .ok (.newarray .int, 2) := by decide +kernel
theorem dX8_init_18 : decode cX8_init 18 = .ok (.putfield 15, 3) := by decide +kernel
theorem dX8_init_21 : decode cX8_init 21 = .ok (.aload_n 0, 1) := by decide +kernel
theorem dX8_init_22 : decode cX8_init 22 = .ok (.sipush 384, 3) := by decide +kernel
theorem dX8_init_25 : decode cX8_init 25 = .ok (.newarray .int, 2) := by decide +kernel
theorem dX8_init_27 : decode cX8_init 27 = .ok (.putfield 18, 3) := by decide +kernel
theorem dX8_init_30 : decode cX8_init 30 = .ok (.aload_n 0, 1) := by decide +kernel
theorem dX8_init_31 : decode cX8_init 31 = .ok (.sipush 384, 3) := by decide +kernel
theorem dX8_init_34 : decode cX8_init 34 = .ok (.newarray .int, 2) := by decide +kernel
theorem dX8_init_36 : decode cX8_init 36 = .ok (.putfield 21, 3) := by decide +kernel
theorem dX8_init_39 : decode cX8_init 39 = .ok (.aload_n 0, 1) := by decide +kernel
theorem dX8_init_40 : decode cX8_init 40 = .ok (.bipush 16, 2) := by decide +kernel
theorem dX8_init_42 : decode cX8_init 42 = .ok (.newarray .int, 2) := by decide +kernel
theorem dX8_init_44 : decode cX8_init 44 = .ok (.putfield 24, 3) := by decide +kernel
theorem dX8_init_47 : decode cX8_init 47 = .ok (.aload_n 0, 1) := by decide +kernel
theorem dX8_init_48 : decode cX8_init 48 = .ok (.bipush 16, 2) := by decide +kernel
theorem dX8_init_50 : decode cX8_init 50 = .ok (.newarray .boolean, 2) := by decide +kernel
theorem dX8_init_52 : decode cX8_init 52 = .ok (.putfield 27, 3) := by decide +kernel
theorem dX8_init_55 : decode cX8_init 55 = .ok (.aload_n 0, 1) := by decide +kernel
theorem dX8_init_56 : decode cX8_init 56 = .ok (.getfield 11, 3) := by decide +kernel
theorem dX8_init_59 : decode cX8_init 59 = .ok (.iconst (-1), 1) := by decide +kernel
theorem dX8_init_60 : decode cX8_init 60 = .ok (.invokestatic 31, 3) := by decide +kernel
theorem dX8_init_63 : decode cX8_init 63 = .ok (.return_, 1) := by decide +kernel
theorem dX8_tellMaster_0 : decode cX8_tellMaster 0 = .ok (.iload_n 1, 1) := by decide +kernel
theorem dX8_tellMaster_1 : decode cX8_tellMaster 1 = .ok (.ifCond .lt 21, 3) := by decide +kernel
theorem dX8_tellMaster_4 : decode cX8_tellMaster 4 = .ok (.iload_n 1, 1) := by decide +kernel
theorem dX8_tellMaster_5 : decode cX8_tellMaster 5 = .ok (.sipush 200, 3) := by decide +kernel
theorem dX8_tellMaster_8 : decode cX8_tellMaster 8 = .ok (.if_icmp .ge 14, 3) := by decide +kernel
theorem dX8_tellMaster_11 : decode cX8_tellMaster 11 = .ok (.iload_n 2, 1) := by decide +kernel
theorem dX8_tellMaster_12 : decode cX8_tellMaster 12 = .ok (.iconst (-1), 1) := by decide +kernel
theorem dX8_tellMaster_13 : decode cX8_tellMaster 13 = .ok (.if_icmp .lt 9, 3) := by decide +kernel
theorem dX8_tellMaster_16 : decode cX8_tellMaster 16 = .ok (.iload_n 2, 1) := by decide +kernel
theorem dX8_tellMaster_17 : decode cX8_tellMaster 17 = .ok (.bipush 99, 2) := by decide +kernel
theorem dX8_tellMaster_19 : decode cX8_tellMaster 19 = .ok (.if_icmp .le 5, 3) := by decide +kernel
theorem dX8_tellMaster_22 : decode cX8_tellMaster 22 = .ok (.iconst 0, 1) := by decide +kernel
theorem dX8_tellMaster_23 : decode cX8_tellMaster 23 = .ok (.ireturn, 1) := by decide +kernel
theorem dX8_tellMaster_24 : decode cX8_tellMaster 24 = .ok (.aload_n 0, 1) := by decide +kernel
theorem dX8_tellMaster_25 : decode cX8_tellMaster 25 = .ok (.getfield 11, 3) := by decide +kernel
theorem dX8_tellMaster_28 : decode cX8_tellMaster 28 = .ok (.iload_n 1, 1) := by decide +kernel
theorem dX8_tellMaster_29 : decode cX8_tellMaster 29 = .ok (.iload_n 2, 1) := by decide +kernel
theorem dX8_tellMaster_30 : decode cX8_tellMaster 30 = .ok (.iastore, 1) := by decide +kernel
theorem dX8_tellMaster_31 : decode cX8_tellMaster 31 = .ok (.iconst 1, 1) := by decide +kernel
theorem dX8_tellMaster_32 : decode cX8_tellMaster 32 = .ok (.ireturn, 1) := by decide +kernel
theorem dX8_addRing_0 : decode cX8_addRing 0 = .ok (.iload_n 1, 1) := by decide +kernel
theorem dX8_addRing_1 : decode cX8_addRing 1 = .ok (.ifCond .lt 30, 3) := by decide +kernel
theorem dX8_addRing_4 : decode cX8_addRing 4 = .ok (.iload_n 1, 1) := by decide +kernel
theorem dX8_addRing_5 : decode cX8_addRing 5 = .ok (.bipush 16, 2) := by decide +kernel
theorem dX8_addRing_7 : decode cX8_addRing 7 = .ok (.if_icmp .ge 24, 3) := by decide +kernel
theorem dX8_addRing_10 : decode cX8_addRing 10 = .ok (.iload_n 2, 1) := by decide +kernel
theorem dX8_addRing_11 : decode cX8_addRing 11 = .ok (.ifCond .lt 20, 3) := by decide +kernel
theorem dX8_addRing_14 : decode cX8_addRing 14 = .ok (.iload_n 2, 1) := by decide +kernel
theorem dX8_addRing_15 : decode cX8_addRing 15 = .ok (.bipush 99, 2) := by decide +kernel
theorem dX8_addRing_17 : decode cX8_addRing 17 = .ok (.if_icmp .gt 14, 3) := by decide +kernel
theorem dX8_addRing_20 : decode cX8_addRing 20 = .ok (.aload_n 0, 1) := by decide +kernel
theorem dX8_addRing_21 : decode cX8_addRing 21 = .ok (.getfield 15, 3) := by decide +kernel
theorem dX8_addRing_24 : decode cX8_addRing 24 = .ok (.iload_n 1, 1) := by decide +kernel
theorem dX8_addRing_25 : decode cX8_addRing 25 = .ok (.iaload, 1) := by decide +kernel
theorem dX8_addRing_26 : decode cX8_addRing 26 = .ok (.bipush 24, 2) := by decide +kernel
theorem dX8_addRing_28 : decode cX8_addRing 28 = .ok (.if_icmp .lt 5, 3) := by decide +kernel
theorem dX8_addRing_31 : decode cX8_addRing 31 = .ok (.iconst (-1), 1) := by decide +kernel
theorem dX8_addRing_32 : decode cX8_addRing 32 = .ok (.ireturn, 1) := by decide +kernel
theorem dX8_addRing_33 : decode cX8_addRing 33 = .ok (.aload_n 0, 1) := by decide +kernel
theorem dX8_addRing_34 : decode cX8_addRing 34 = .ok (.getfield 18, 3) := by decide +kernel
theorem dX8_addRing_37 : decode cX8_addRing 37 = .ok (.iload_n 1, 1) := by decide +kernel
theorem dX8_addRing_38 : decode cX8_addRing 38 = .ok (.bipush 24, 2) := by decide +kernel
theorem dX8_addRing_40 : decode cX8_addRing 40 = .ok (.imul, 1) := by decide +kernel
theorem dX8_addRing_41 : decode cX8_addRing 41 = .ok (.aload_n 0, 1) := by decide +kernel
theorem dX8_addRing_42 : decode cX8_addRing 42 = .ok (.getfield 15, 3) := by decide +kernel
theorem dX8_addRing_45 : decode cX8_addRing 45 = .ok (.iload_n 1, 1) := by decide +kernel
theorem dX8_addRing_46 : decode cX8_addRing 46 = .ok (.iaload, 1) := by decide +kernel
theorem dX8_addRing_47 : decode cX8_addRing 47 = .ok (.iadd, 1) := by decide +kernel
theorem dX8_addRing_48 : decode cX8_addRing 48 = .ok (.iload_n 2, 1) := by decide +kernel
theorem dX8_addRing_49 : decode cX8_addRing 49 = .ok (.iastore, 1) := by decide +kernel
theorem dX8_addRing_50 : decode cX8_addRing 50 = .ok (.aload_n 0, 1) := by decide +kernel
theorem dX8_addRing_51 : decode cX8_addRing 51 = .ok (.getfield 21, 3) := by decide +kernel
theorem dX8_addRing_54 : decode cX8_addRing 54 = .ok (.iload_n 1, 1) := by decide +kernel
theorem dX8_addRing_55 : decode cX8_addRing 55 = .ok (.bipush 24, 2) := by decide +kernel
theorem dX8_addRing_57 : decode cX8_addRing 57 = .ok (.imul, 1) := by decide +kernel
theorem dX8_addRing_58 : decode cX8_addRing 58 = .ok (.aload_n 0, 1) := by decide +kernel
theorem dX8_addRing_59 : decode cX8_addRing 59 = .ok (.getfield 15, 3) := by decide +kernel
theorem dX8_addRing_62 : decode cX8_addRing 62 = .ok (.iload_n 1, 1) := by decide +kernel
theorem dX8_addRing_63 : decode cX8_addRing 63 = .ok (.iaload, 1) := by decide +kernel
theorem dX8_addRing_64 : decode cX8_addRing 64 = .ok (.iadd, 1) := by decide +kernel
theorem dX8_addRing_65 : decode cX8_addRing 65 = .ok (.iload_n 3, 1) := by decide +kernel
theorem dX8_addRing_66 : decode cX8_addRing 66 = .ok (.iastore, 1) := by decide +kernel
theorem dX8_addRing_67 : decode cX8_addRing 67 = .ok (.aload_n 0, 1) := by decide +kernel
theorem dX8_addRing_68 : decode cX8_addRing 68 = .ok (.getfield 15, 3) := by decide +kernel
theorem dX8_addRing_71 : decode cX8_addRing 71 = .ok (.iload_n 1, 1) := by decide +kernel
theorem dX8_addRing_72 : decode cX8_addRing 72 = .ok (.dup2, 1) := by decide +kernel
theorem dX8_addRing_73 : decode cX8_addRing 73 = .ok (.iaload, 1) := by decide +kernel
theorem dX8_addRing_74 : decode cX8_addRing 74 = .ok (.iconst 1, 1) := by decide +kernel
theorem dX8_addRing_75 : decode cX8_addRing 75 = .ok (.iadd, 1) := by decide +kernel
theorem dX8_addRing_76 : decode cX8_addRing 76 = .ok (.iastore, 1) := by decide +kernel
theorem dX8_addRing_77 : decode cX8_addRing 77 = .ok (.aload_n 0, 1) := by decide +kernel
theorem dX8_addRing_78 : decode cX8_addRing 78 = .ok (.getfield 15, 3) := by decide +kernel
theorem dX8_addRing_81 : decode cX8_addRing 81 = .ok (.iload_n 1, 1) := by decide +kernel
theorem dX8_addRing_82 : decode cX8_addRing 82 = .ok (.iaload, 1) := by decide +kernel
theorem dX8_addRing_83 : decode cX8_addRing 83 = .ok (.ireturn, 1) := by decide +kernel
theorem dX8_tellSap_0 : decode cX8_tellSap 0 = .ok (.iload_n 1, 1) := by decide +kernel
theorem dX8_tellSap_1 : decode cX8_tellSap 1 = .ok (.ifCond .lt 19, 3) := by decide +kernel
theorem dX8_tellSap_4 : decode cX8_tellSap 4 = .ok (.iload_n 1, 1) := by decide +kernel
theorem dX8_tellSap_5 : decode cX8_tellSap 5 = .ok (.bipush 16, 2) := by decide +kernel
theorem dX8_tellSap_7 : decode cX8_tellSap 7 = .ok (.if_icmp .ge 13, 3) := by decide +kernel
theorem dX8_tellSap_10 : decode cX8_tellSap 10 = .ok (.iload_n 2, 1) := by decide +kernel
theorem dX8_tellSap_11 : decode cX8_tellSap 11 = .ok (.ifCond .lt 9, 3) := by decide +kernel
theorem dX8_tellSap_14 : decode cX8_tellSap 14 = .ok (.iload_n 2, 1) := by decide +kernel
theorem dX8_tellSap_15 : decode cX8_tellSap 15 = .ok (.bipush 24, 2) := by decide +kernel
theorem dX8_tellSap_17 : decode cX8_tellSap 17 = .ok (.if_icmp .le 5, 3) := by decide +kernel
theorem dX8_tellSap_20 : decode cX8_tellSap 20 = .ok (.iconst 0, 1) := by decide +kernel
theorem dX8_tellSap_21 : decode cX8_tellSap 21 = .ok (.ireturn, 1) := by decide +kernel
theorem dX8_tellSap_22 : decode cX8_tellSap 22 = .ok (.aload_n 0, 1) := by decide +kernel
theorem dX8_tellSap_23 : decode cX8_tellSap 23 = .ok (.getfield 24, 3) := by decide +kernel
theorem dX8_tellSap_26 : decode cX8_tellSap 26 = .ok (.iload_n 1, 1) := by decide +kernel
theorem dX8_tellSap_27 : decode cX8_tellSap 27 = .ok (.iload_n 2, 1) := by decide +kernel
theorem dX8_tellSap_28 : decode cX8_tellSap 28 = .ok (.iastore, 1) := by decide +kernel
theorem dX8_tellSap_29 : decode cX8_tellSap 29 = .ok (.aload_n 0, 1) := by decide +kernel
theorem dX8_tellSap_30 : decode cX8_tellSap 30 = .ok (.getfield 27, 3) := by decide +kernel
theorem dX8_tellSap_33 : decode cX8_tellSap 33 = .ok (.iload_n 1, 1) := by decide +kernel
theorem dX8_tellSap_34 : decode cX8_tellSap 34 = .ok (.iload_n 3, 1) := by decide +kernel
theorem dX8_tellSap_35 : decode cX8_tellSap 35 = .ok (.bastore, 1) := by decide +kernel
theorem dX8_tellSap_36 : decode cX8_tellSap 36 = .ok (.iconst 1, 1) := by decide +kernel
theorem dX8_tellSap_37 : decode cX8_tellSap 37 = .ok (.ireturn, 1) := by decide +kernel
theorem dX8_ringsSeen_0 : decode cX8_ringsSeen 0 = .ok (.iload_n 1, 1) := by decide +kernel
theorem dX8_ringsSeen_1 : decode cX8_ringsSeen 1 = .ok (.ifCond .lt 9, 3) := by decide +kernel
theorem dX8_ringsSeen_4 : decode cX8_ringsSeen 4 = .ok (.iload_n 1, 1) := by decide +kernel
theorem dX8_ringsSeen_5 : decode cX8_ringsSeen 5 = .ok (.bipush 16, 2) := by decide +kernel
theorem dX8_ringsSeen_7 : decode cX8_ringsSeen 7 = .ok (.if_icmp .lt 5, 3) := by decide +kernel
theorem dX8_ringsSeen_10 : decode cX8_ringsSeen 10 = .ok (.iconst 0, 1) := by decide +kernel
theorem dX8_ringsSeen_11 : decode cX8_ringsSeen 11 = .ok (.ireturn, 1) := by decide +kernel
theorem dX8_ringsSeen_12 : decode cX8_ringsSeen 12 = .ok (.iconst 0, 1) := by decide +kernel
theorem dX8_ringsSeen_13 : decode cX8_ringsSeen 13 = .ok (.istore_n 3, 1) := by decide +kernel
theorem dX8_ringsSeen_14 : decode cX8_ringsSeen 14 = .ok (.iload_n 3, 1) := by decide +kernel
theorem dX8_ringsSeen_15 : decode cX8_ringsSeen 15 = .ok (.aload_n 0, 1) := by decide +kernel
theorem dX8_ringsSeen_16 : decode cX8_ringsSeen 16 = .ok (.getfield 15, 3) := by decide +kernel
theorem dX8_ringsSeen_19 : decode cX8_ringsSeen 19 = .ok (.iload_n 1, 1) := by decide +kernel
theorem dX8_ringsSeen_20 : decode cX8_ringsSeen 20 = .ok (.iaload, 1) := by decide +kernel
theorem dX8_ringsSeen_21 : decode cX8_ringsSeen 21 = .ok (.if_icmp .ge 30, 3) := by decide +kernel
theorem dX8_ringsSeen_24 : decode cX8_ringsSeen 24 = .ok (.iload_n 3, 1) := by decide +kernel
theorem dX8_ringsSeen_25 : decode cX8_ringsSeen 25 = .ok (.bipush 24, 2) := by decide +kernel
theorem dX8_ringsSeen_27 : decode cX8_ringsSeen 27 = .ok (.if_icmp .ge 24, 3) := by decide +kernel
theorem dX8_ringsSeen_30 : decode cX8_ringsSeen 30 = .ok (.aload_n 0, 1) := by decide +kernel
theorem dX8_ringsSeen_31 : decode cX8_ringsSeen 31 = .ok (.getfield 21, 3) := by decide +kernel
theorem dX8_ringsSeen_34 : decode cX8_ringsSeen 34 = .ok (.iload_n 1, 1) := by decide +kernel
theorem dX8_ringsSeen_35 : decode cX8_ringsSeen 35 = .ok (.bipush 24, 2) := by decide +kernel
theorem dX8_ringsSeen_37 : decode cX8_ringsSeen 37 = .ok (.imul, 1) := by decide +kernel
theorem dX8_ringsSeen_38 : decode cX8_ringsSeen 38 = .ok (.iload_n 3, 1) := by decide +kernel
theorem dX8_ringsSeen_39 : decode cX8_ringsSeen 39 = .ok (.iadd, 1) := by decide +kernel
theorem dX8_ringsSeen_40 : decode cX8_ringsSeen 40 = .ok (.iaload, 1) := by decide +kernel
theorem dX8_ringsSeen_41 : decode cX8_ringsSeen 41 = .ok (.iload_n 2, 1) := by decide +kernel
theorem dX8_ringsSeen_42 : decode cX8_ringsSeen 42 = .ok (.if_icmp .gt 9, 3) := by decide +kernel
theorem dX8_ringsSeen_45 : decode cX8_ringsSeen 45 = .ok (.iinc 3 1, 3) := by decide +kernel
theorem dX8_ringsSeen_48 : decode cX8_ringsSeen 48 = .ok (.goto (-34), 3) := by decide +kernel
theorem dX8_ringsSeen_51 : decode cX8_ringsSeen 51 = .ok (.iload_n 3, 1) := by decide +kernel
theorem dX8_ringsSeen_52 : decode cX8_ringsSeen 52 = .ok (.ireturn, 1) := by decide +kernel
theorem dX8_sapTold_0 : decode cX8_sapTold 0 = .ok (.aload_n 0, 1) := by decide +kernel
theorem dX8_sapTold_1 : decode cX8_sapTold 1 = .ok (.getfield 24, 3) := by decide +kernel
theorem dX8_sapTold_4 : decode cX8_sapTold 4 = .ok (.iload_n 1, 1) := by decide +kernel
theorem dX8_sapTold_5 : decode cX8_sapTold 5 = .ok (.invokestatic 37, 3) := by decide +kernel
theorem dX8_sapTold_8 : decode cX8_sapTold 8 = .ok (.ireturn, 1) := by decide +kernel
theorem dX8_barkTold_0 : decode cX8_barkTold 0 = .ok (.iload_n 1, 1) := by decide +kernel
theorem dX8_barkTold_1 : decode cX8_barkTold 1 = .ok (.ifCond .lt 22, 3) := by decide +kernel
theorem dX8_barkTold_4 : decode cX8_barkTold 4 = .ok (.iload_n 1, 1) := by decide +kernel
theorem dX8_barkTold_5 : decode cX8_barkTold 5 = .ok (.bipush 16, 2) := by decide +kernel
theorem dX8_barkTold_7 : decode cX8_barkTold 7 = .ok (.if_icmp .ge 16, 3) := by decide +kernel
theorem dX8_barkTold_10 : decode cX8_barkTold 10 = .ok (.aload_n 0, 1) := by decide +kernel
theorem dX8_barkTold_11 : decode cX8_barkTold 11 = .ok (.getfield 27, 3) := by decide +kernel
theorem dX8_barkTold_14 : decode cX8_barkTold 14 = .ok (.iload_n 1, 1) := by decide +kernel
theorem dX8_barkTold_15 : decode cX8_barkTold 15 = .ok (.baload, 1) := by decide +kernel
theorem dX8_barkTold_16 : decode cX8_barkTold 16 = .ok (.ifCond .eq 7, 3) := by decide +kernel
theorem dX8_barkTold_19 : decode cX8_barkTold 19 = .ok (.iconst 1, 1) := by decide +kernel
theorem dX8_barkTold_20 : decode cX8_barkTold 20 = .ok (.goto 4, 3) := by decide +kernel
theorem dX8_barkTold_23 : decode cX8_barkTold 23 = .ok (.iconst 0, 1) := by decide +kernel
theorem dX8_barkTold_24 : decode cX8_barkTold 24 = .ok (.ireturn, 1) := by decide +kernel
theorem dX8_dateBy_0 : decode cX8_dateBy 0 = .ok (.aload_n 0, 1) := by decide +kernel
theorem dX8_dateBy_1 : decode cX8_dateBy 1 = .ok (.iload_n 2, 1) := by decide +kernel
theorem dX8_dateBy_2 : decode cX8_dateBy 2 = .ok (.iload_n 3, 1) := by decide +kernel
theorem dX8_dateBy_3 : decode cX8_dateBy 3 = .ok (.invokevirtual 41, 3) := by decide +kernel
theorem dX8_dateBy_6 : decode cX8_dateBy 6 = .ok (.istore 4, 2) := by decide +kernel
theorem dX8_dateBy_8 : decode cX8_dateBy 8 = .ok (.aload_n 0, 1) := by decide +kernel
theorem dX8_dateBy_9 : decode cX8_dateBy 9 = .ok (.iconst (-1), 1) := by decide +kernel
theorem dX8_dateBy_10 : decode cX8_dateBy 10 = .ok (.putfield 45, 3) := by decide +kernel
theorem dX8_dateBy_13 : decode cX8_dateBy 13 = .ok (.aload_n 0, 1) := by decide +kernel
theorem dX8_dateBy_14 : decode cX8_dateBy 14 = .ok (.iconst (-1), 1) := by decide +kernel
theorem dX8_dateBy_15 : decode cX8_dateBy 15 = .ok (.putfield 49, 3) := by decide +kernel
theorem dX8_dateBy_18 : decode cX8_dateBy 18 = .ok (.aload_n 0, 1) := by decide +kernel
theorem dX8_dateBy_19 : decode cX8_dateBy 19 = .ok (.iconst 0, 1) := by decide +kernel
theorem dX8_dateBy_20 : decode cX8_dateBy 20 = .ok (.putfield 52, 3) := by decide +kernel
theorem dX8_dateBy_23 : decode cX8_dateBy 23 = .ok (.iload 4, 2) := by decide +kernel
theorem dX8_dateBy_25 : decode cX8_dateBy 25 = .ok (.iconst 2, 1) := by decide +kernel
theorem dX8_dateBy_26 : decode cX8_dateBy 26 = .ok (.if_icmp .ge 4, 3) := by decide +kernel
theorem dX8_dateBy_29 : decode cX8_dateBy 29 = .ok (.return_, 1) := by decide +kernel
theorem dX8_dateBy_30 : decode cX8_dateBy 30 = .ok (.iconst (-1), 1) := by decide +kernel
theorem dX8_dateBy_31 : decode cX8_dateBy 31 = .ok (.istore 5, 2) := by decide +kernel
theorem dX8_dateBy_33 : decode cX8_dateBy 33 = .ok (.iload 4, 2) := by decide +kernel
theorem dX8_dateBy_35 : decode cX8_dateBy 35 = .ok (.iconst 1, 1) := by decide +kernel
theorem dX8_dateBy_36 : decode cX8_dateBy 36 = .ok (.isub, 1) := by decide +kernel
theorem dX8_dateBy_37 : decode cX8_dateBy 37 = .ok (.istore 6, 2) := by decide +kernel
theorem dX8_dateBy_39 : decode cX8_dateBy 39 = .ok (.iload 6, 2) := by decide +kernel
theorem dX8_dateBy_41 : decode cX8_dateBy 41 = .ok (.sipush 200, 3) := by decide +kernel
theorem dX8_dateBy_44 : decode cX8_dateBy 44 = .ok (.if_icmp .ge 61, 3) := by decide +kernel
theorem dX8_dateBy_47 : decode cX8_dateBy 47 = .ok (.aload_n 0, 1) := by decide +kernel
theorem dX8_dateBy_48 : decode cX8_dateBy 48 = .ok (.iload_n 2, 1) := by decide +kernel
theorem dX8_dateBy_49 : decode cX8_dateBy 49 = .ok (.iload 4, 2) := by decide +kernel
theorem dX8_dateBy_51 : decode cX8_dateBy 51 = .ok (.iload 6, 2) := by decide +kernel
theorem dX8_dateBy_53 : decode cX8_dateBy 53 = .ok (.invokevirtual 56, 3) := by decide +kernel
theorem dX8_dateBy_56 : decode cX8_dateBy 56 = .ok (.istore 7, 2) := by decide +kernel
theorem dX8_dateBy_58 : decode cX8_dateBy 58 = .ok (.iload 7, 2) := by decide +kernel
theorem dX8_dateBy_60 : decode cX8_dateBy 60 = .ok (.aload_n 0, 1) := by decide +kernel
theorem dX8_dateBy_61 : decode cX8_dateBy 61 = .ok (.getfield 49, 3) := by decide +kernel
theorem dX8_dateBy_64 : decode cX8_dateBy 64 = .ok (.if_icmp .le 24, 3) := by decide +kernel
theorem dX8_dateBy_67 : decode cX8_dateBy 67 = .ok (.aload_n 0, 1) := by decide +kernel
theorem dX8_dateBy_68 : decode cX8_dateBy 68 = .ok (.getfield 49, 3) := by decide +kernel
theorem dX8_dateBy_71 : decode cX8_dateBy 71 = .ok (.istore 5, 2) := by decide +kernel
theorem dX8_dateBy_73 : decode cX8_dateBy 73 = .ok (.aload_n 0, 1) := by decide +kernel
theorem dX8_dateBy_74 : decode cX8_dateBy 74 = .ok (.iload 7, 2) := by decide +kernel
theorem dX8_dateBy_76 : decode cX8_dateBy 76 = .ok (.putfield 49, 3) := by decide +kernel
theorem dX8_dateBy_79 : decode cX8_dateBy 79 = .ok (.aload_n 0, 1) := by decide +kernel
theorem dX8_dateBy_80 : decode cX8_dateBy 80 = .ok (.iload 6, 2) := by decide +kernel
theorem dX8_dateBy_82 : decode cX8_dateBy 82 = .ok (.putfield 45, 3) := by decide +kernel
theorem dX8_dateBy_85 : decode cX8_dateBy 85 = .ok (.goto 14, 3) := by decide +kernel
theorem dX8_dateBy_88 : decode cX8_dateBy 88 = .ok (.iload 7, 2) := by decide +kernel
theorem dX8_dateBy_90 : decode cX8_dateBy 90 = .ok (.iload 5, 2) := by decide +kernel
theorem dX8_dateBy_92 : decode cX8_dateBy 92 = .ok (.if_icmp .le 7, 3) := by decide +kernel
theorem dX8_dateBy_95 : decode cX8_dateBy 95 = .ok (.iload 7, 2) := by decide +kernel
theorem dX8_dateBy_97 : decode cX8_dateBy 97 = .ok (.istore 5, 2) := by decide +kernel
theorem dX8_dateBy_99 : decode cX8_dateBy 99 = .ok (.iinc 6 1, 3) := by decide +kernel
theorem dX8_dateBy_102 : decode cX8_dateBy 102 = .ok (.goto (-63), 3) := by decide +kernel
theorem dX8_dateBy_105 : decode cX8_dateBy 105 = .ok (.aload_n 0, 1) := by decide +kernel
theorem dX8_dateBy_106 : decode cX8_dateBy 106 = .ok (.aload_n 0, 1) := by decide +kernel
theorem dX8_dateBy_107 : decode cX8_dateBy 107 = .ok (.getfield 45, 3) := by decide +kernel
theorem dX8_dateBy_110 : decode cX8_dateBy 110 = .ok (.iconst (-1), 1) := by decide +kernel
theorem dX8_dateBy_111 : decode cX8_dateBy 111 = .ok (.if_icmp .eq 46, 3) := by decide +kernel
theorem dX8_dateBy_114 : decode cX8_dateBy 114 = .ok (.bipush 100, 2) := by decide +kernel
theorem dX8_dateBy_116 : decode cX8_dateBy 116 = .ok (.aload_n 0, 1) := by decide +kernel
theorem dX8_dateBy_117 : decode cX8_dateBy 117 = .ok (.getfield 49, 3) := by decide +kernel
theorem dX8_dateBy_120 : decode cX8_dateBy 120 = .ok (.imul, 1) := by decide +kernel
theorem dX8_dateBy_121 : decode cX8_dateBy 121 = .ok (.aload_n 1, 1) := by decide +kernel
theorem dX8_dateBy_122 : decode cX8_dateBy 122 = .ok (.getfield 60, 3) := by decide +kernel
theorem dX8_dateBy_125 : decode cX8_dateBy 125 = .ok (.iload 4, 2) := by decide +kernel
theorem dX8_dateBy_127 : decode cX8_dateBy 127 = .ok (.iconst 1, 1) := by decide +kernel
theorem dX8_dateBy_128 : decode cX8_dateBy 128 = .ok (.isub, 1) := by decide +kernel
theorem dX8_dateBy_129 : decode cX8_dateBy 129 = .ok (.imul, 1) := by decide +kernel
theorem dX8_dateBy_130 : decode cX8_dateBy 130 = .ok (.if_icmp .lt 27, 3) := by decide +kernel
theorem dX8_dateBy_133 : decode cX8_dateBy 133 = .ok (.iload 5, 2) := by decide +kernel
theorem dX8_dateBy_135 : decode cX8_dateBy 135 = .ok (.iconst (-1), 1) := by decide +kernel
theorem dX8_dateBy_136 : decode cX8_dateBy 136 = .ok (.if_icmp .eq 17, 3) := by decide +kernel
theorem dX8_dateBy_139 : decode cX8_dateBy 139 = .ok (.iload 5, 2) := by decide +kernel
theorem dX8_dateBy_141 : decode cX8_dateBy 141 = .ok (.aload_n 0, 1) := by decide +kernel
theorem dX8_dateBy_142 : decode cX8_dateBy 142 = .ok (.getfield 49, 3) := by decide +kernel
theorem dX8_dateBy_145 : decode cX8_dateBy 145 = .ok (.aload_n 1, 1) := by decide +kernel
theorem dX8_dateBy_146 : decode cX8_dateBy 146 = .ok (.getfield 65, 3) := by decide +kernel
theorem dX8_dateBy_149 : decode cX8_dateBy 149 = .ok (.isub, 1) := by decide +kernel
theorem dX8_dateBy_150 : decode cX8_dateBy 150 = .ok (.if_icmp .gt 7, 3) := by decide +kernel
theorem dX8_dateBy_153 : decode cX8_dateBy 153 = .ok (.iconst 1, 1) := by decide +kernel
theorem dX8_dateBy_154 : decode cX8_dateBy 154 = .ok (.goto 4, 3) := by decide +kernel
theorem dX8_dateBy_157 : decode cX8_dateBy 157 = .ok (.iconst 0, 1) := by decide +kernel
theorem dX8_dateBy_158 : decode cX8_dateBy 158 = .ok (.putfield 52, 3) := by decide +kernel
theorem dX8_dateBy_161 : decode cX8_dateBy 161 = .ok (.aload_n 0, 1) := by decide +kernel
theorem dX8_dateBy_162 : decode cX8_dateBy 162 = .ok (.getfield 52, 3) := by decide +kernel
theorem dX8_dateBy_165 : decode cX8_dateBy 165 = .ok (.ifCond .eq 23, 3) := by decide +kernel
theorem dX8_dateBy_168 : decode cX8_dateBy 168 = .ok (.aload_n 0, 1) := by decide +kernel
theorem dX8_dateBy_169 : decode cX8_dateBy 169 = .ok (.aload_n 1, 1) := by decide +kernel
theorem dX8_dateBy_170 : decode cX8_dateBy 170 = .ok (.aload_n 0, 1) := by decide +kernel
theorem dX8_dateBy_171 : decode cX8_dateBy 171 = .ok (.iload_n 2, 1) := by decide +kernel
theorem dX8_dateBy_172 : decode cX8_dateBy 172 = .ok (.invokevirtual 68, 3) := by decide +kernel
theorem dX8_dateBy_175 : decode cX8_dateBy 175 = .ok (.iload 4, 2) := by decide +kernel
theorem dX8_dateBy_177 : decode cX8_dateBy 177 = .ok (.invokestatic 72, 3) := by decide +kernel
theorem dX8_dateBy_180 : decode cX8_dateBy 180 = .ok (.aload_n 0, 1) := by decide +kernel
theorem dX8_dateBy_181 : decode cX8_dateBy 181 = .ok (.iload_n 2, 1) := by decide +kernel
theorem dX8_dateBy_182 : decode cX8_dateBy 182 = .ok (.invokevirtual 77, 3) := by decide +kernel
theorem dX8_dateBy_185 : decode cX8_dateBy 185 = .ok (.invokevirtual 81, 3) := by decide +kernel
theorem dX8_dateBy_188 : decode cX8_dateBy 188 = .ok (.return_, 1) := by decide +kernel
theorem dX8_agreeAt_0 : decode cX8_agreeAt 0 = .ok (.iconst 0, 1) := by decide +kernel
theorem dX8_agreeAt_1 : decode cX8_agreeAt 1 = .ok (.istore 4, 2) := by decide +kernel
theorem dX8_agreeAt_3 : decode cX8_agreeAt 3 = .ok (.iconst 0, 1) := by decide +kernel
theorem dX8_agreeAt_4 : decode cX8_agreeAt 4 = .ok (.istore 5, 2) := by decide +kernel
theorem dX8_agreeAt_6 : decode cX8_agreeAt 6 = .ok (.iload 5, 2) := by decide +kernel
theorem dX8_agreeAt_8 : decode cX8_agreeAt 8 = .ok (.iload_n 2, 1) := by decide +kernel
theorem dX8_agreeAt_9 : decode cX8_agreeAt 9 = .ok (.if_icmp .ge 75, 3) := by decide +kernel
theorem dX8_agreeAt_12 : decode cX8_agreeAt 12 = .ok (.iload_n 3, 1) := by decide +kernel
theorem dX8_agreeAt_13 : decode cX8_agreeAt 13 = .ok (.iload_n 2, 1) := by decide +kernel
theorem dX8_agreeAt_14 : decode cX8_agreeAt 14 = .ok (.isub, 1) := by decide +kernel
theorem dX8_agreeAt_15 : decode cX8_agreeAt 15 = .ok (.iconst 1, 1) := by decide +kernel
theorem dX8_agreeAt_16 : decode cX8_agreeAt 16 = .ok (.iadd, 1) := by decide +kernel
theorem dX8_agreeAt_17 : decode cX8_agreeAt 17 = .ok (.iload 5, 2) := by decide +kernel
theorem dX8_agreeAt_19 : decode cX8_agreeAt 19 = .ok (.iadd, 1) := by decide +kernel
theorem dX8_agreeAt_20 : decode cX8_agreeAt 20 = .ok (.istore 6, 2) := by decide +kernel
theorem dX8_agreeAt_22 : decode cX8_agreeAt 22 = .ok (.aload_n 0, 1) := by decide +kernel
theorem dX8_agreeAt_23 : decode cX8_agreeAt 23 = .ok (.getfield 11, 3) := by decide +kernel
theorem dX8_agreeAt_26 : decode cX8_agreeAt 26 = .ok (.iload 6, 2) := by decide +kernel
theorem dX8_agreeAt_28 : decode cX8_agreeAt 28 = .ok (.invokestatic 37, 3) := by decide +kernel
theorem dX8_agreeAt_31 : decode cX8_agreeAt 31 = .ok (.iconst (-1), 1) := by decide +kernel
theorem dX8_agreeAt_32 : decode cX8_agreeAt 32 = .ok (.if_icmp .ne 5, 3) := by decide +kernel
theorem dX8_agreeAt_35 : decode cX8_agreeAt 35 = .ok (.iconst (-1), 1) := by decide +kernel
theorem dX8_agreeAt_36 : decode cX8_agreeAt 36 = .ok (.ireturn, 1) := by decide +kernel
theorem dX8_agreeAt_37 : decode cX8_agreeAt 37 = .ok (.iload 5, 2) := by decide +kernel
theorem dX8_agreeAt_39 : decode cX8_agreeAt 39 = .ok (.ifCond .le 39, 3) := by decide +kernel
theorem dX8_agreeAt_42 : decode cX8_agreeAt 42 = .ok (.aload_n 0, 1) := by decide +kernel
theorem dX8_agreeAt_43 : decode cX8_agreeAt 43 = .ok (.getfield 11, 3) := by decide +kernel
theorem dX8_agreeAt_46 : decode cX8_agreeAt 46 = .ok (.iload 6, 2) := by decide +kernel
theorem dX8_agreeAt_48 : decode cX8_agreeAt 48 = .ok (.iconst 1, 1) := by decide +kernel
theorem dX8_agreeAt_49 : decode cX8_agreeAt 49 = .ok (.isub, 1) := by decide +kernel
theorem dX8_agreeAt_50 : decode cX8_agreeAt 50 = .ok (.invokestatic 37, 3) := by decide +kernel
theorem dX8_agreeAt_53 : decode cX8_agreeAt 53 = .ok (.aload_n 0, 1) := by decide +kernel
theorem dX8_agreeAt_54 : decode cX8_agreeAt 54 = .ok (.getfield 11, 3) := by decide +kernel
theorem dX8_agreeAt_57 : decode cX8_agreeAt 57 = .ok (.iload 6, 2) := by decide +kernel
theorem dX8_agreeAt_59 : decode cX8_agreeAt 59 = .ok (.invokestatic 37, 3) := by decide +kernel
theorem dX8_agreeAt_62 : decode cX8_agreeAt 62 = .ok (.invokestatic 85, 3) := by decide +kernel
theorem dX8_agreeAt_65 : decode cX8_agreeAt 65 = .ok (.aload_n 0, 1) := by decide +kernel
theorem dX8_agreeAt_66 : decode cX8_agreeAt 66 = .ok (.iload_n 1, 1) := by decide +kernel
theorem dX8_agreeAt_67 : decode cX8_agreeAt 67 = .ok (.iload 5, 2) := by decide +kernel
theorem dX8_agreeAt_69 : decode cX8_agreeAt 69 = .ok (.invokevirtual 88, 3) := by decide +kernel
theorem dX8_agreeAt_72 : decode cX8_agreeAt 72 = .ok (.if_icmp .ne 6, 3) := by decide +kernel
theorem dX8_agreeAt_75 : decode cX8_agreeAt 75 = .ok (.iinc 4 1, 3) := by decide +kernel
theorem dX8_agreeAt_78 : decode cX8_agreeAt 78 = .ok (.iinc 5 1, 3) := by decide +kernel
theorem dX8_agreeAt_81 : decode cX8_agreeAt 81 = .ok (.goto (-75), 3) := by decide +kernel
theorem dX8_agreeAt_84 : decode cX8_agreeAt 84 = .ok (.iload 4, 2) := by decide +kernel
theorem dX8_agreeAt_86 : decode cX8_agreeAt 86 = .ok (.ireturn, 1) := by decide +kernel
theorem dX8_wayTo_0 : decode cX8_wayTo 0 = .ok (.aload_n 0, 1) := by decide +kernel
theorem dX8_wayTo_1 : decode cX8_wayTo 1 = .ok (.getfield 18, 3) := by decide +kernel
theorem dX8_wayTo_4 : decode cX8_wayTo 4 = .ok (.iload_n 1, 1) := by decide +kernel
theorem dX8_wayTo_5 : decode cX8_wayTo 5 = .ok (.bipush 24, 2) := by decide +kernel
theorem dX8_wayTo_7 : decode cX8_wayTo 7 = .ok (.imul, 1) := by decide +kernel
theorem dX8_wayTo_8 : decode cX8_wayTo 8 = .ok (.iload_n 2, 1) := by decide +kernel
theorem dX8_wayTo_9 : decode cX8_wayTo 9 = .ok (.iadd, 1) := by decide +kernel
theorem dX8_wayTo_10 : decode cX8_wayTo 10 = .ok (.iconst 1, 1) := by decide +kernel
theorem dX8_wayTo_11 : decode cX8_wayTo 11 = .ok (.isub, 1) := by decide +kernel
theorem dX8_wayTo_12 : decode cX8_wayTo 12 = .ok (.invokestatic 37, 3) := by decide +kernel
theorem dX8_wayTo_15 : decode cX8_wayTo 15 = .ok (.aload_n 0, 1) := by decide +kernel
theorem dX8_wayTo_16 : decode cX8_wayTo 16 = .ok (.getfield 18, 3) := by decide +kernel
theorem dX8_wayTo_19 : decode cX8_wayTo 19 = .ok (.iload_n 1, 1) := by decide +kernel
theorem dX8_wayTo_20 : decode cX8_wayTo 20 = .ok (.bipush 24, 2) := by decide +kernel
theorem dX8_wayTo_22 : decode cX8_wayTo 22 = .ok (.imul, 1) := by decide +kernel
theorem dX8_wayTo_23 : decode cX8_wayTo 23 = .ok (.iload_n 2, 1) := by decide +kernel
theorem dX8_wayTo_24 : decode cX8_wayTo 24 = .ok (.iadd, 1) := by decide +kernel
theorem dX8_wayTo_25 : decode cX8_wayTo 25 = .ok (.invokestatic 37, 3) := by decide +kernel
theorem dX8_wayTo_28 : decode cX8_wayTo 28 = .ok (.invokestatic 85, 3) := by decide +kernel
theorem dX8_wayTo_31 : decode cX8_wayTo 31 = .ok (.ireturn, 1) := by decide +kernel
theorem dX8_way_0 : decode cX8_way 0 = .ok (.iload_n 0, 1) := by decide +kernel
theorem dX8_way_1 : decode cX8_way 1 = .ok (.iload_n 1, 1) := by decide +kernel
theorem dX8_way_2 : decode cX8_way 2 = .ok (.if_icmp .ne 5, 3) := by decide +kernel
theorem dX8_way_5 : decode cX8_way 5 = .ok (.iconst 0, 1) := by decide +kernel
theorem dX8_way_6 : decode cX8_way 6 = .ok (.ireturn, 1) := by decide +kernel
theorem dX8_way_7 : decode cX8_way 7 = .ok (.iload_n 0, 1) := by decide +kernel
theorem dX8_way_8 : decode cX8_way 8 = .ok (.iload_n 1, 1) := by decide +kernel
theorem dX8_way_9 : decode cX8_way 9 = .ok (.if_icmp .ge 7, 3) := by decide +kernel
theorem dX8_way_12 : decode cX8_way 12 = .ok (.iconst 1, 1) := by decide +kernel
theorem dX8_way_13 : decode cX8_way 13 = .ok (.goto 4, 3) := by decide +kernel
theorem dX8_way_16 : decode cX8_way 16 = .ok (.iconst (-1), 1) := by decide +kernel
theorem dX8_way_17 : decode cX8_way 17 = .ok (.ireturn, 1) := by decide +kernel
theorem dX8_fell_0 : decode cX8_fell 0 = .ok (.iload_n 3, 1) := by decide +kernel
theorem dX8_fell_1 : decode cX8_fell 1 = .ok (.ifCond .eq 22, 3) := by decide +kernel
theorem dX8_fell_4 : decode cX8_fell 4 = .ok (.aload_n 0, 1) := by decide +kernel
theorem dX8_fell_5 : decode cX8_fell 5 = .ok (.aload_n 0, 1) := by decide +kernel
theorem dX8_fell_6 : decode cX8_fell 6 = .ok (.getfield 45, 3) := by decide +kernel
theorem dX8_fell_9 : decode cX8_fell 9 = .ok (.putfield 91, 3) := by decide +kernel
theorem dX8_fell_12 : decode cX8_fell 12 = .ok (.aload_n 0, 1) := by decide +kernel
theorem dX8_fell_13 : decode cX8_fell 13 = .ok (.aload_n 0, 1) := by decide +kernel
theorem dX8_fell_14 : decode cX8_fell 14 = .ok (.getfield 45, 3) := by decide +kernel
theorem dX8_fell_17 : decode cX8_fell 17 = .ok (.putfield 94, 3) := by decide +kernel
theorem dX8_fell_20 : decode cX8_fell 20 = .ok (.goto 57, 3) := by decide +kernel
theorem dX8_fell_23 : decode cX8_fell 23 = .ok (.aload_n 0, 1) := by decide +kernel
theorem dX8_fell_24 : decode cX8_fell 24 = .ok (.aload_n 0, 1) := by decide +kernel
theorem dX8_fell_25 : decode cX8_fell 25 = .ok (.getfield 45, 3) := by decide +kernel
theorem dX8_fell_28 : decode cX8_fell 28 = .ok (.aload_n 0, 1) := by decide +kernel
theorem dX8_fell_29 : decode cX8_fell 29 = .ok (.getfield 45, 3) := by decide +kernel
theorem dX8_fell_32 : decode cX8_fell 32 = .ok (.aload_n 1, 1) := by decide +kernel
theorem dX8_fell_33 : decode cX8_fell 33 = .ok (.getfield 97, 3) := by decide +kernel
theorem dX8_fell_36 : decode cX8_fell 36 = .ok (.iadd, 1) := by decide +kernel
theorem dX8_fell_37 : decode cX8_fell 37 = .ok (.iload_n 2, 1) := by decide +kernel
theorem dX8_fell_38 : decode cX8_fell 38 = .ok (.isub, 1) := by decide +kernel
theorem dX8_fell_39 : decode cX8_fell 39 = .ok (.invokestatic 100, 3) := by decide +kernel
theorem dX8_fell_42 : decode cX8_fell 42 = .ok (.putfield 91, 3) := by decide +kernel
theorem dX8_fell_45 : decode cX8_fell 45 = .ok (.aload_n 0, 1) := by decide +kernel
theorem dX8_fell_46 : decode cX8_fell 46 = .ok (.iload_n 2, 1) := by decide +kernel
theorem dX8_fell_47 : decode cX8_fell 47 = .ok (.ifCond .le 24, 3) := by decide +kernel
theorem dX8_fell_50 : decode cX8_fell 50 = .ok (.aload_n 0, 1) := by decide +kernel
theorem dX8_fell_51 : decode cX8_fell 51 = .ok (.getfield 91, 3) := by decide +kernel
theorem dX8_fell_54 : decode cX8_fell 54 = .ok (.aload_n 0, 1) := by decide +kernel
theorem dX8_fell_55 : decode cX8_fell 55 = .ok (.getfield 45, 3) := by decide +kernel
theorem dX8_fell_58 : decode cX8_fell 58 = .ok (.aload_n 1, 1) := by decide +kernel
theorem dX8_fell_59 : decode cX8_fell 59 = .ok (.getfield 103, 3) := by decide +kernel
theorem dX8_fell_62 : decode cX8_fell 62 = .ok (.iadd, 1) := by decide +kernel
theorem dX8_fell_63 : decode cX8_fell 63 = .ok (.iload_n 2, 1) := by decide +kernel
theorem dX8_fell_64 : decode cX8_fell 64 = .ok (.isub, 1) := by decide +kernel
theorem dX8_fell_65 : decode cX8_fell 65 = .ok (.invokestatic 100, 3) := by decide +kernel
theorem dX8_fell_68 : decode cX8_fell 68 = .ok (.goto 6, 3) := by decide +kernel
theorem dX8_fell_71 : decode cX8_fell 71 = .ok (.sipush 999, 3) := by decide +kernel
theorem dX8_fell_74 : decode cX8_fell 74 = .ok (.putfield 94, 3) := by decide +kernel
theorem dX8_fell_77 : decode cX8_fell 77 = .ok (.aload_n 0, 1) := by decide +kernel
theorem dX8_fell_78 : decode cX8_fell 78 = .ok (.sipush 999, 3) := by decide +kernel
theorem dX8_fell_81 : decode cX8_fell 81 = .ok (.aload_n 0, 1) := by decide +kernel
theorem dX8_fell_82 : decode cX8_fell 82 = .ok (.getfield 94, 3) := by decide +kernel
theorem dX8_fell_85 : decode cX8_fell 85 = .ok (.aload_n 1, 1) := by decide +kernel
theorem dX8_fell_86 : decode cX8_fell 86 = .ok (.getfield 106, 3) := by decide +kernel
theorem dX8_fell_89 : decode cX8_fell 89 = .ok (.iadd, 1) := by decide +kernel
theorem dX8_fell_90 : decode cX8_fell 90 = .ok (.invokestatic 72, 3) := by decide +kernel
theorem dX8_fell_93 : decode cX8_fell 93 = .ok (.putfield 109, 3) := by decide +kernel
theorem dX8_fell_96 : decode cX8_fell 96 = .ok (.return_, 1) := by decide +kernel
theorem dX8_isSure_0 : decode cX8_isSure 0 = .ok (.aload_n 0, 1) := by decide +kernel
theorem dX8_isSure_1 : decode cX8_isSure 1 = .ok (.getfield 52, 3) := by decide +kernel
theorem dX8_isSure_4 : decode cX8_isSure 4 = .ok (.ireturn, 1) := by decide +kernel
theorem dX8_dated_0 : decode cX8_dated 0 = .ok (.aload_n 0, 1) := by decide +kernel
theorem dX8_dated_1 : decode cX8_dated 1 = .ok (.getfield 45, 3) := by decide +kernel
theorem dX8_dated_4 : decode cX8_dated 4 = .ok (.iconst (-1), 1) := by decide +kernel
theorem dX8_dated_5 : decode cX8_dated 5 = .ok (.if_icmp .ne 5, 3) := by decide +kernel
theorem dX8_dated_8 : decode cX8_dated 8 = .ok (.iconst (-1), 1) := by decide +kernel
theorem dX8_dated_9 : decode cX8_dated 9 = .ok (.ireturn, 1) := by decide +kernel
theorem dX8_dated_10 : decode cX8_dated 10 = .ok (.iload_n 1, 1) := by decide +kernel
theorem dX8_dated_11 : decode cX8_dated 11 = .ok (.tableswitch 48 0 2 #[25, 30, 35], 25) := by decide +kernel
theorem dX8_dated_36 : decode cX8_dated 36 = .ok (.aload_n 0, 1) := by decide +kernel
theorem dX8_dated_37 : decode cX8_dated 37 = .ok (.getfield 45, 3) := by decide +kernel
theorem dX8_dated_40 : decode cX8_dated 40 = .ok (.ireturn, 1) := by decide +kernel
theorem dX8_dated_41 : decode cX8_dated 41 = .ok (.aload_n 0, 1) := by decide +kernel
theorem dX8_dated_42 : decode cX8_dated 42 = .ok (.getfield 49, 3) := by decide +kernel
theorem dX8_dated_45 : decode cX8_dated 45 = .ok (.ireturn, 1) := by decide +kernel
theorem dX8_dated_46 : decode cX8_dated 46 = .ok (.aload_n 0, 1) := by decide +kernel
theorem dX8_dated_47 : decode cX8_dated 47 = .ok (.getfield 52, 3) := by decide +kernel
theorem dX8_dated_50 : decode cX8_dated 50 = .ok (.ifCond .eq 7, 3) := by decide +kernel
theorem dX8_dated_53 : decode cX8_dated 53 = .ok (.iconst 1, 1) := by decide +kernel
theorem dX8_dated_54 : decode cX8_dated 54 = .ok (.goto 4, 3) := by decide +kernel
theorem dX8_dated_57 : decode cX8_dated 57 = .ok (.iconst 0, 1) := by decide +kernel
theorem dX8_dated_58 : decode cX8_dated 58 = .ok (.ireturn, 1) := by decide +kernel
theorem dX8_dated_59 : decode cX8_dated 59 = .ok (.aload_n 0, 1) := by decide +kernel
theorem dX8_dated_60 : decode cX8_dated 60 = .ok (.getfield 52, 3) := by decide +kernel
theorem dX8_dated_63 : decode cX8_dated 63 = .ok (.ifCond .eq 11, 3) := by decide +kernel
theorem dX8_dated_66 : decode cX8_dated 66 = .ok (.aload_n 0, 1) := by decide +kernel
theorem dX8_dated_67 : decode cX8_dated 67 = .ok (.iload_n 1, 1) := by decide +kernel
theorem dX8_dated_68 : decode cX8_dated 68 = .ok (.invokevirtual 112, 3) := by decide +kernel
theorem dX8_dated_71 : decode cX8_dated 71 = .ok (.goto 4, 3) := by decide +kernel
theorem dX8_dated_74 : decode cX8_dated 74 = .ok (.iconst (-1), 1) := by decide +kernel
theorem dX8_dated_75 : decode cX8_dated 75 = .ok (.ireturn, 1) := by decide +kernel
theorem dX8_felledOrUsed_0 : decode cX8_felledOrUsed 0 = .ok (.iload_n 1, 1) := by decide +kernel
theorem dX8_felledOrUsed_1 : decode cX8_felledOrUsed 1 = .ok (.tableswitch 51 3 6 #[31, 36, 41, 46], 31) := by decide +kernel
theorem dX8_felledOrUsed_32 : decode cX8_felledOrUsed 32 = .ok (.aload_n 0, 1) := by decide +kernel
theorem dX8_felledOrUsed_33 : decode cX8_felledOrUsed 33 = .ok (.getfield 91, 3) := by decide +kernel
theorem dX8_felledOrUsed_36 : decode cX8_felledOrUsed 36 = .ok (.ireturn, 1) := by decide +kernel
theorem dX8_felledOrUsed_37 : decode cX8_felledOrUsed 37 = .ok (.aload_n 0, 1) := by decide +kernel
theorem dX8_felledOrUsed_38 : decode cX8_felledOrUsed 38 = .ok (.getfield 94, 3) := by decide +kernel
theorem dX8_felledOrUsed_41 : decode cX8_felledOrUsed 41 = .ok (.ireturn, 1) := by decide +kernel
theorem dX8_felledOrUsed_42 : decode cX8_felledOrUsed 42 = .ok (.aload_n 0, 1) := by decide +kernel
theorem dX8_felledOrUsed_43 : decode cX8_felledOrUsed 43 = .ok (.getfield 91, 3) := by decide +kernel
theorem dX8_felledOrUsed_46 : decode cX8_felledOrUsed 46 = .ok (.ireturn, 1) := by decide +kernel
theorem dX8_felledOrUsed_47 : decode cX8_felledOrUsed 47 = .ok (.aload_n 0, 1) := by decide +kernel
theorem dX8_felledOrUsed_48 : decode cX8_felledOrUsed 48 = .ok (.getfield 109, 3) := by decide +kernel
theorem dX8_felledOrUsed_51 : decode cX8_felledOrUsed 51 = .ok (.ireturn, 1) := by decide +kernel
theorem dX8_felledOrUsed_52 : decode cX8_felledOrUsed 52 = .ok (.iconst (-1), 1) := by decide +kernel
theorem dX8_felledOrUsed_53 : decode cX8_felledOrUsed 53 = .ok (.ireturn, 1) := by decide +kernel
theorem dX9_init_0 : decode cX9_init 0 = .ok (.aload_n 0, 1) := by decide +kernel
theorem dX9_init_1 : decode cX9_init 1 = .ok (.invokespecial 3, 3) := by decide +kernel
theorem dX9_init_4 : decode cX9_init 4 = .ok (.aload_n 0, 1) := by decide +kernel
theorem dX9_init_5 : decode cX9_init 5 = .ok (.sipush 800, 3) := by decide +kernel
theorem dX9_init_8 : decode cX9_init 8 = .ok (.newarray .int, 2) := by decide +kernel
theorem dX9_init_10 : decode cX9_init 10 = .ok (.putfield 11, 3) := by decide +kernel
theorem dX9_init_13 : decode cX9_init 13 = .ok (.aload_n 0, 1) := by decide +kernel
theorem dX9_init_14 : decode cX9_init 14 = .ok (.iconst 0, 1) := by decide +kernel
theorem dX9_init_15 : decode cX9_init 15 = .ok (.putfield 15, 3) := by decide +kernel
theorem dX9_init_18 : decode cX9_init 18 = .ok (.return_, 1) := by decide +kernel
theorem dX9_hasRoomFor_0 : decode cX9_hasRoomFor 0 = .ok (.aload_n 0, 1) := by decide +kernel
theorem dX9_hasRoomFor_1 : decode cX9_hasRoomFor 1 = .ok (.getfield 15, 3) := by decide +kernel
theorem dX9_hasRoomFor_4 : decode cX9_hasRoomFor 4 = .ok (.iload_n 1, 1) := by decide +kernel
theorem dX9_hasRoomFor_5 : decode cX9_hasRoomFor 5 = .ok (.iadd, 1) := by decide +kernel
theorem dX9_hasRoomFor_6 : decode cX9_hasRoomFor 6 = .ok (.sipush 800, 3) := by decide +kernel
theorem dX9_hasRoomFor_9 : decode cX9_hasRoomFor 9 = .ok (.if_icmp .gt 7, 3) := by decide +kernel
theorem dX9_hasRoomFor_12 : decode cX9_hasRoomFor 12 = .ok (.iconst 1, 1) := by decide +kernel
theorem dX9_hasRoomFor_13 : decode cX9_hasRoomFor 13 = .ok (.goto 4, 3) := by decide +kernel
theorem dX9_hasRoomFor_16 : decode cX9_hasRoomFor 16 = .ok (.iconst 0, 1) := by decide +kernel
theorem dX9_hasRoomFor_17 : decode cX9_hasRoomFor 17 = .ok (.ireturn, 1) := by decide +kernel
theorem dX9_push_0 : decode cX9_push 0 = .ok (.bipush 24, 2) := by decide +kernel
theorem dX9_push_2 : decode cX9_push 2 = .ok (.istore_n 2, 1) := by decide +kernel
theorem dX9_push_3 : decode cX9_push 3 = .ok (.iload_n 2, 1) := by decide +kernel
theorem dX9_push_4 : decode cX9_push 4 = .ok (.ifCond .lt 45, 3) := by decide +kernel
theorem dX9_push_7 : decode cX9_push 7 = .ok (.aload_n 0, 1) := by decide +kernel
theorem dX9_push_8 : decode cX9_push 8 = .ok (.getfield 15, 3) := by decide +kernel
theorem dX9_push_11 : decode cX9_push 11 = .ok (.sipush 800, 3) := by decide +kernel
theorem dX9_push_14 : decode cX9_push 14 = .ok (.if_icmp .ge 29, 3) := by decide +kernel
theorem dX9_push_17 : decode cX9_push 17 = .ok (.aload_n 0, 1) := by decide +kernel
theorem dX9_push_18 : decode cX9_push 18 = .ok (.getfield 11, 3) := by decide +kernel
theorem dX9_push_21 : decode cX9_push 21 = .ok (.aload_n 0, 1) := by decide +kernel
theorem dX9_push_22 : decode cX9_push 22 = .ok (.getfield 15, 3) := by decide +kernel
theorem dX9_push_25 : decode cX9_push 25 = .ok (.iload_n 1, 1) := by decide +kernel
theorem dX9_push_26 : decode cX9_push 26 = .ok (.iload_n 2, 1) := by decide +kernel
theorem dX9_push_27 : decode cX9_push 27 = .ok (.iushr, 1) := by decide +kernel
theorem dX9_push_28 : decode cX9_push 28 = .ok (.sipush 255, 3) := by decide +kernel
theorem dX9_push_31 : decode cX9_push 31 = .ok (.iand, 1) := by decide +kernel
theorem dX9_push_32 : decode cX9_push 32 = .ok (.iastore, 1) := by decide +kernel
theorem dX9_push_33 : decode cX9_push 33 = .ok (.aload_n 0, 1) := by decide +kernel
theorem dX9_push_34 : decode cX9_push 34 = .ok (.dup, 1) := by decide +kernel
theorem dX9_push_35 : decode cX9_push 35 = .ok (.getfield 15, 3) := by decide +kernel
theorem dX9_push_38 : decode cX9_push 38 = .ok (.iconst 1, 1) := by decide +kernel
theorem dX9_push_39 : decode cX9_push 39 = .ok (.iadd, 1) := by decide +kernel
theorem dX9_push_40 : decode cX9_push 40 = .ok (.putfield 15, 3) := by decide +kernel
theorem dX9_push_43 : decode cX9_push 43 = .ok (.iinc 2 (-8), 3) := by decide +kernel
theorem dX9_push_46 : decode cX9_push 46 = .ok (.goto (-43), 3) := by decide +kernel
theorem dX9_push_49 : decode cX9_push 49 = .ok (.return_, 1) := by decide +kernel
theorem dX9_cut_0 : decode cX9_cut 0 = .ok (.iload_n 1, 1) := by decide +kernel
theorem dX9_cut_1 : decode cX9_cut 1 = .ok (.ifCond .lt 11, 3) := by decide +kernel
theorem dX9_cut_4 : decode cX9_cut 4 = .ok (.iload_n 1, 1) := by decide +kernel
theorem dX9_cut_5 : decode cX9_cut 5 = .ok (.aload_n 0, 1) := by decide +kernel
theorem dX9_cut_6 : decode cX9_cut 6 = .ok (.getfield 15, 3) := by decide +kernel
theorem dX9_cut_9 : decode cX9_cut 9 = .ok (.if_icmp .le 5, 3) := by decide +kernel
theorem dX9_cut_12 : decode cX9_cut 12 = .ok (.iconst 0, 1) := by decide +kernel
theorem dX9_cut_13 : decode cX9_cut 13 = .ok (.ireturn, 1) := by decide +kernel
theorem dX9_cut_14 : decode cX9_cut 14 = .ok (.aload_n 0, 1) := by decide +kernel
theorem dX9_cut_15 : decode cX9_cut 15 = .ok (.iload_n 1, 1) := by decide +kernel
theorem dX9_cut_16 : decode cX9_cut 16 = .ok (.putfield 15, 3) := by decide +kernel
theorem dX9_cut_19 : decode cX9_cut 19 = .ok (.iconst 1, 1) := by decide +kernel
theorem dX9_cut_20 : decode cX9_cut 20 = .ok (.ireturn, 1) := by decide +kernel
theorem dX9_clear_0 : decode cX9_clear 0 = .ok (.aload_n 0, 1) := by decide +kernel
theorem dX9_clear_1 : decode cX9_clear 1 = .ok (.iconst 0, 1) := by decide +kernel
theorem dX9_clear_2 : decode cX9_clear 2 = .ok (.putfield 15, 3) := by decide +kernel
theorem dX9_clear_5 : decode cX9_clear 5 = .ok (.return_, 1) := by decide +kernel
theorem dX9_size_0 : decode cX9_size 0 = .ok (.aload_n 0, 1) := by decide +kernel
theorem dX9_size_1 : decode cX9_size 1 = .ok (.getfield 15, 3) := by decide +kernel
theorem dX9_size_4 : decode cX9_size 4 = .ok (.ireturn, 1) := by decide +kernel
theorem dX9_byteAt_0 : decode cX9_byteAt 0 = .ok (.iload_n 1, 1) := by decide +kernel
theorem dX9_byteAt_1 : decode cX9_byteAt 1 = .ok (.ifCond .lt 27, 3) := by decide +kernel
theorem dX9_byteAt_4 : decode cX9_byteAt 4 = .ok (.iload_n 1, 1) := by decide +kernel
theorem dX9_byteAt_5 : decode cX9_byteAt 5 = .ok (.aload_n 0, 1) := by decide +kernel
theorem dX9_byteAt_6 : decode cX9_byteAt 6 = .ok (.getfield 15, 3) := by decide +kernel
theorem dX9_byteAt_9 : decode cX9_byteAt 9 = .ok (.if_icmp .ge 19, 3) := by decide +kernel
theorem dX9_byteAt_12 : decode cX9_byteAt 12 = .ok (.iload_n 1, 1) := by decide +kernel
theorem dX9_byteAt_13 : decode cX9_byteAt 13 = .ok (.sipush 800, 3) := by decide +kernel
theorem dX9_byteAt_16 : decode cX9_byteAt 16 = .ok (.if_icmp .ge 12, 3) := by decide +kernel
theorem dX9_byteAt_19 : decode cX9_byteAt 19 = .ok (.aload_n 0, 1) := by decide +kernel
theorem dX9_byteAt_20 : decode cX9_byteAt 20 = .ok (.getfield 11, 3) := by decide +kernel
theorem dX9_byteAt_23 : decode cX9_byteAt 23 = .ok (.iload_n 1, 1) := by decide +kernel
theorem dX9_byteAt_24 : decode cX9_byteAt 24 = .ok (.iaload, 1) := by decide +kernel
theorem dX9_byteAt_25 : decode cX9_byteAt 25 = .ok (.goto 4, 3) := by decide +kernel
theorem dX9_byteAt_28 : decode cX9_byteAt 28 = .ok (.iconst (-1), 1) := by decide +kernel
theorem dX9_byteAt_29 : decode cX9_byteAt 29 = .ok (.ireturn, 1) := by decide +kernel
theorem dX10_init_0 : decode cX10_init 0 = .ok (.aload_n 0, 1) := by decide +kernel
theorem dX10_init_1 : decode cX10_init 1 = .ok (.invokespecial 3, 3) := by decide +kernel
theorem dX10_init_4 : decode cX10_init 4 = .ok (.aload_n 0, 1) := by decide +kernel
theorem dX10_init_5 : decode cX10_init 5 = .ok (.iconst 0, 1) := by decide +kernel
theorem dX10_init_6 : decode cX10_init 6 = .ok (.putfield 9, 3) := by decide +kernel
theorem dX10_init_9 : decode cX10_init 9 = .ok (.aload_n 0, 1) := by decide +kernel
theorem dX10_init_10 : decode cX10_init 10 = .ok (.bipush 16, 2) := by decide +kernel
theorem dX10_init_12 : decode cX10_init 12 = .ok (.newarray .int, 2) := by decide +kernel
theorem dX10_init_14 : decode cX10_init 14 = .ok (.putfield 15, 3) := by decide +kernel
theorem dX10_init_17 : decode cX10_init 17 = .ok (.aload_n 0, 1) := by decide +kernel
theorem dX10_init_18 : decode cX10_init 18 = .ok (.bipush 16, 2) := by decide +kernel
theorem dX10_init_20 : decode cX10_init 20 = .ok (.newarray .int, 2) := by decide +kernel
theorem dX10_init_22 : decode cX10_init 22 = .ok (.putfield 19, 3) := by decide +kernel
theorem dX10_init_25 : decode cX10_init 25 = .ok (.aload_n 0, 1) := by decide +kernel
theorem dX10_init_26 : decode cX10_init 26 = .ok (.bipush 16, 2) := by decide +kernel
theorem dX10_init_28 : decode cX10_init 28 = .ok (.newarray .int, 2) := by decide +kernel
theorem dX10_init_30 : decode cX10_init 30 = .ok (.putfield 22, 3) := by decide +kernel
theorem dX10_init_33 : decode cX10_init 33 = .ok (.aload_n 0, 1) := by decide +kernel
theorem dX10_init_34 : decode cX10_init 34 = .ok (.iconst 0, 1) := by decide +kernel
theorem dX10_init_35 : decode cX10_init 35 = .ok (.putfield 25, 3) := by decide +kernel
theorem dX10_init_38 : decode cX10_init 38 = .ok (.aload_n 0, 1) := by decide +kernel
theorem dX10_init_39 : decode cX10_init 39 = .ok (.bipush 48, 2) := by decide +kernel
theorem dX10_init_41 : decode cX10_init 41 = .ok (.newarray .int, 2) := by decide +kernel
theorem dX10_init_43 : decode cX10_init 43 = .ok (.putfield 28, 3) := by decide +kernel
theorem dX10_init_46 : decode cX10_init 46 = .ok (.aload_n 0, 1) := by decide +kernel
theorem dX10_init_47 : decode cX10_init 47 = .ok (.bipush 48, 2) := by decide +kernel
theorem dX10_init_49 : decode cX10_init 49 = .ok (.newarray .int, 2) := by decide +kernel
theorem dX10_init_51 : decode cX10_init 51 = .ok (.putfield 31, 3) := by decide +kernel
theorem dX10_init_54 : decode cX10_init 54 = .ok (.aload_n 0, 1) := by decide +kernel
theorem dX10_init_55 : decode cX10_init 55 = .ok (.bipush 48, 2) := by decide +kernel
theorem dX10_init_57 : decode cX10_init 57 = .ok (.newarray .int, 2) := by decide +kernel
theorem dX10_init_59 : decode cX10_init 59 = .ok (.putfield 34, 3) := by decide +kernel
theorem dX10_init_62 : decode cX10_init 62 = .ok (.aload_n 0, 1) := by decide +kernel
theorem dX10_init_63 : decode cX10_init 63 = .ok (.bipush 48, 2) := by decide +kernel
theorem dX10_init_65 : decode cX10_init 65 = .ok (.newarray .int, 2) := by decide +kernel
theorem dX10_init_67 : decode cX10_init 67 = .ok (.putfield 37, 3) := by decide +kernel
theorem dX10_init_70 : decode cX10_init 70 = .ok (.aload_n 0, 1) := by decide +kernel
theorem dX10_init_71 : decode cX10_init 71 = .ok (.bipush 48, 2) := by decide +kernel
theorem dX10_init_73 : decode cX10_init 73 = .ok (.newarray .int, 2) := by decide +kernel
theorem dX10_init_75 : decode cX10_init 75 = .ok (.putfield 40, 3) := by decide +kernel
theorem dX10_init_78 : decode cX10_init 78 = .ok (.return_, 1) := by decide +kernel
theorem dX10_addTimber_0 : decode cX10_addTimber 0 = .ok (.iload_n 1, 1) := by decide +kernel
theorem dX10_addTimber_1 : decode cX10_addTimber 1 = .ok (.ifCond .lt 28, 3) := by decide +kernel
theorem dX10_addTimber_4 : decode cX10_addTimber 4 = .ok (.iload_n 1, 1) := by decide +kernel
theorem dX10_addTimber_5 : decode cX10_addTimber 5 = .ok (.iconst 4, 1) := by decide +kernel
theorem dX10_addTimber_6 : decode cX10_addTimber 6 = .ok (.if_icmp .ge 23, 3) := by decide +kernel
theorem dX10_addTimber_9 : decode cX10_addTimber 9 = .ok (.iload_n 2, 1) := by decide +kernel
theorem dX10_addTimber_10 : decode cX10_addTimber 10 = .ok (.iconst 1, 1) := by decide +kernel
theorem dX10_addTimber_11 : decode cX10_addTimber 11 = .ok (.if_icmp .lt 18, 3) := by decide +kernel
theorem dX10_addTimber_14 : decode cX10_addTimber 14 = .ok (.iload_n 2, 1) := by decide +kernel
theorem dX10_addTimber_15 : decode cX10_addTimber 15 = .ok (.bipush 99, 2) := by decide +kernel
theorem dX10_addTimber_17 : decode cX10_addTimber 17 = .ok (.if_icmp .gt 12, 3) := by decide +kernel
theorem dX10_addTimber_20 : decode cX10_addTimber 20 = .ok (.aload_n 0, 1) := by decide +kernel
theorem dX10_addTimber_21 : decode cX10_addTimber 21 = .ok (.getfield 9, 3) := by decide +kernel
theorem dX10_addTimber_24 : decode cX10_addTimber 24 = .ok (.bipush 16, 2) := by decide +kernel
theorem dX10_addTimber_26 : decode cX10_addTimber 26 = .ok (.if_icmp .lt 5, 3) := by decide +kernel
theorem dX10_addTimber_29 : decode cX10_addTimber 29 = .ok (.iconst (-1), 1) := by decide +kernel
theorem dX10_addTimber_30 : decode cX10_addTimber 30 = .ok (.ireturn, 1) := by decide +kernel
theorem dX10_addTimber_31 : decode cX10_addTimber 31 = .ok (.aload_n 0, 1) := by decide +kernel
theorem dX10_addTimber_32 : decode cX10_addTimber 32 = .ok (.getfield 15, 3) := by decide +kernel
theorem dX10_addTimber_35 : decode cX10_addTimber 35 = .ok (.aload_n 0, 1) := by decide +kernel
theorem dX10_addTimber_36 : decode cX10_addTimber 36 = .ok (.getfield 9, 3) := by decide +kernel
theorem dX10_addTimber_39 : decode cX10_addTimber 39 = .ok (.iload_n 1, 1) := by decide +kernel
theorem dX10_addTimber_40 : decode cX10_addTimber 40 = .ok (.iastore, 1) := by decide +kernel
theorem dX10_addTimber_41 : decode cX10_addTimber 41 = .ok (.aload_n 0, 1) := by decide +kernel
theorem dX10_addTimber_42 : decode cX10_addTimber 42 = .ok (.getfield 19, 3) := by decide +kernel
theorem dX10_addTimber_45 : decode cX10_addTimber 45 = .ok (.aload_n 0, 1) := by decide +kernel
theorem dX10_addTimber_46 : decode cX10_addTimber 46 = .ok (.getfield 9, 3) := by decide +kernel
theorem dX10_addTimber_49 : decode cX10_addTimber 49 = .ok (.iload_n 2, 1) := by decide +kernel
theorem dX10_addTimber_50 : decode cX10_addTimber 50 = .ok (.iastore, 1) := by decide +kernel
theorem dX10_addTimber_51 : decode cX10_addTimber 51 = .ok (.aload_n 0, 1) := by decide +kernel
theorem dX10_addTimber_52 : decode cX10_addTimber 52 = .ok (.getfield 22, 3) := by decide +kernel
theorem dX10_addTimber_55 : decode cX10_addTimber 55 = .ok (.aload_n 0, 1) := by decide +kernel
theorem dX10_addTimber_56 : decode cX10_addTimber 56 = .ok (.getfield 9, 3) := by decide +kernel
theorem dX10_addTimber_59 : decode cX10_addTimber 59 = .ok (.iload_n 3, 1) := by decide +kernel
theorem dX10_addTimber_60 : decode cX10_addTimber 60 = .ok (.iastore, 1) := by decide +kernel
theorem dX10_addTimber_61 : decode cX10_addTimber 61 = .ok (.aload_n 0, 1) := by decide +kernel
theorem dX10_addTimber_62 : decode cX10_addTimber 62 = .ok (.dup, 1) := by decide +kernel
theorem dX10_addTimber_63 : decode cX10_addTimber 63 = .ok (.getfield 9, 3) := by decide +kernel
theorem dX10_addTimber_66 : decode cX10_addTimber 66 = .ok (.iconst 1, 1) := by decide +kernel
theorem dX10_addTimber_67 : decode cX10_addTimber 67 = .ok (.iadd, 1) := by decide +kernel
theorem dX10_addTimber_68 : decode cX10_addTimber 68 = .ok (.putfield 9, 3) := by decide +kernel
theorem dX10_addTimber_71 : decode cX10_addTimber 71 = .ok (.aload_n 0, 1) := by decide +kernel
theorem dX10_addTimber_72 : decode cX10_addTimber 72 = .ok (.getfield 9, 3) := by decide +kernel
theorem dX10_addTimber_75 : decode cX10_addTimber 75 = .ok (.iconst 1, 1) := by decide +kernel
theorem dX10_addTimber_76 : decode cX10_addTimber 76 = .ok (.isub, 1) := by decide +kernel
theorem dX10_addTimber_77 : decode cX10_addTimber 77 = .ok (.ireturn, 1) := by decide +kernel
theorem dX10_addJoint_0 : decode cX10_addJoint 0 = .ok (.aload_n 0, 1) := by decide +kernel
theorem dX10_addJoint_1 : decode cX10_addJoint 1 = .ok (.iload_n 1, 1) := by decide +kernel
theorem dX10_addJoint_2 : decode cX10_addJoint 2 = .ok (.invokevirtual 43, 3) := by decide +kernel
theorem dX10_addJoint_5 : decode cX10_addJoint 5 = .ok (.ifCond .eq 26, 3) := by decide +kernel
theorem dX10_addJoint_8 : decode cX10_addJoint 8 = .ok (.aload_n 0, 1) := by decide +kernel
theorem dX10_addJoint_9 : decode cX10_addJoint 9 = .ok (.getfield 25, 3) := by decide +kernel
theorem dX10_addJoint_12 : decode cX10_addJoint 12 = .ok (.bipush 48, 2) := by decide +kernel
theorem dX10_addJoint_14 : decode cX10_addJoint 14 = .ok (.if_icmp .ge 17, 3) := by decide +kernel
theorem dX10_addJoint_17 : decode cX10_addJoint 17 = .ok (.aload_n 0, 1) := by decide +kernel
theorem dX10_addJoint_18 : decode cX10_addJoint 18 = .ok (.iload_n 1, 1) := by decide +kernel
theorem dX10_addJoint_19 : decode cX10_addJoint 19 = .ok (.aload_n 0, 1) := by decide +kernel
theorem dX10_addJoint_20 : decode cX10_addJoint 20 = .ok (.getfield 25, 3) := by decide +kernel
theorem dX10_addJoint_23 : decode cX10_addJoint 23 = .ok (.invokevirtual 47, 3) := by decide +kernel
theorem dX10_addJoint_26 : decode cX10_addJoint 26 = .ok (.bipush 6, 2) := by decide +kernel
theorem dX10_addJoint_28 : decode cX10_addJoint 28 = .ok (.if_icmp .lt 5, 3) := by decide +kernel
theorem dX10_addJoint_31 : decode cX10_addJoint 31 = .ok (.iconst (-1), 1) := by decide +kernel
theorem dX10_addJoint_32 : decode cX10_addJoint 32 = .ok (.ireturn, 1) := by decide +kernel
theorem dX10_addJoint_33 : decode cX10_addJoint 33 = .ok (.iload_n 2, 1) := by decide +kernel
theorem dX10_addJoint_34 : decode cX10_addJoint 34 = .ok (.ifCond .lt 35, 3) := by decide +kernel
theorem dX10_addJoint_37 : decode cX10_addJoint 37 = .ok (.iload_n 2, 1) := by decide +kernel
theorem dX10_addJoint_38 : decode cX10_addJoint 38 = .ok (.aload_n 0, 1) := by decide +kernel
theorem dX10_addJoint_39 : decode cX10_addJoint 39 = .ok (.getfield 19, 3) := by decide +kernel
theorem dX10_addJoint_42 : decode cX10_addJoint 42 = .ok (.iload_n 1, 1) := by decide +kernel
theorem dX10_addJoint_43 : decode cX10_addJoint 43 = .ok (.iaload, 1) := by decide +kernel
theorem dX10_addJoint_44 : decode cX10_addJoint 44 = .ok (.if_icmp .gt 25, 3) := by decide +kernel
theorem dX10_addJoint_47 : decode cX10_addJoint 47 = .ok (.iload_n 3, 1) := by decide +kernel
theorem dX10_addJoint_48 : decode cX10_addJoint 48 = .ok (.ifCond .eq 8, 3) := by decide +kernel
theorem dX10_addJoint_51 : decode cX10_addJoint 51 = .ok (.iload_n 3, 1) := by decide +kernel
theorem dX10_addJoint_52 : decode cX10_addJoint 52 = .ok (.iconst 1, 1) := by decide +kernel
theorem dX10_addJoint_53 : decode cX10_addJoint 53 = .ok (.if_icmp .ne 16, 3) := by decide +kernel
theorem dX10_addJoint_56 : decode cX10_addJoint 56 = .ok (.iload 4, 2) := by decide +kernel
theorem dX10_addJoint_58 : decode cX10_addJoint 58 = .ok (.iconst 1, 1) := by decide +kernel
theorem dX10_addJoint_59 : decode cX10_addJoint 59 = .ok (.if_icmp .lt 10, 3) := by decide +kernel
theorem dX10_addJoint_62 : decode cX10_addJoint 62 = .ok (.iload 4, 2) := by decide +kernel
theorem dX10_addJoint_64 : decode cX10_addJoint 64 = .ok (.bipush 9, 2) := by decide +kernel
theorem dX10_addJoint_66 : decode cX10_addJoint 66 = .ok (.if_icmp .le 5, 3) := by decide +kernel
theorem dX10_addJoint_69 : decode cX10_addJoint 69 = .ok (.iconst (-1), 1) := by decide +kernel
theorem dX10_addJoint_70 : decode cX10_addJoint 70 = .ok (.ireturn, 1) := by decide +kernel
theorem dX10_addJoint_71 : decode cX10_addJoint 71 = .ok (.aload_n 0, 1) := by decide +kernel
theorem dX10_addJoint_72 : decode cX10_addJoint 72 = .ok (.getfield 28, 3) := by decide +kernel
theorem dX10_addJoint_75 : decode cX10_addJoint 75 = .ok (.aload_n 0, 1) := by decide +kernel
theorem dX10_addJoint_76 : decode cX10_addJoint 76 = .ok (.getfield 25, 3) := by decide +kernel
theorem dX10_addJoint_79 : decode cX10_addJoint 79 = .ok (.iload_n 1, 1) := by decide +kernel
theorem dX10_addJoint_80 : decode cX10_addJoint 80 = .ok (.iastore, 1) := by decide +kernel
theorem dX10_addJoint_81 : decode cX10_addJoint 81 = .ok (.aload_n 0, 1) := by decide +kernel
theorem dX10_addJoint_82 : decode cX10_addJoint 82 = .ok (.getfield 31, 3) := by decide +kernel
theorem dX10_addJoint_85 : decode cX10_addJoint 85 = .ok (.aload_n 0, 1) := by decide +kernel
theorem dX10_addJoint_86 : decode cX10_addJoint 86 = .ok (.getfield 25, 3) := by decide +kernel
theorem dX10_addJoint_89 : decode cX10_addJoint 89 = .ok (.iload_n 2, 1) := by decide +kernel
theorem dX10_addJoint_90 : decode cX10_addJoint 90 = .ok (.iastore, 1) := by decide +kernel
theorem dX10_addJoint_91 : decode cX10_addJoint 91 = .ok (.aload_n 0, 1) := by decide +kernel
theorem dX10_addJoint_92 : decode cX10_addJoint 92 = .ok (.getfield 34, 3) := by decide +kernel
theorem dX10_addJoint_95 : decode cX10_addJoint 95 = .ok (.aload_n 0, 1) := by decide +kernel
theorem dX10_addJoint_96 : decode cX10_addJoint 96 = .ok (.getfield 25, 3) := by decide +kernel
theorem dX10_addJoint_99 : decode cX10_addJoint 99 = .ok (.iload_n 3, 1) := by decide +kernel
theorem dX10_addJoint_100 : decode cX10_addJoint 100 = .ok (.iastore, 1) := by decide +kernel
theorem dX10_addJoint_101 : decode cX10_addJoint 101 = .ok (.aload_n 0, 1) := by decide +kernel
theorem dX10_addJoint_102 : decode cX10_addJoint 102 = .ok (.getfield 37, 3) := by decide +kernel
theorem dX10_addJoint_105 : decode cX10_addJoint 105 = .ok (.aload_n 0, 1) := by decide +kernel
theorem dX10_addJoint_106 : decode cX10_addJoint 106 = .ok (.getfield 25, 3) := by decide +kernel
theorem dX10_addJoint_109 : decode cX10_addJoint 109 = .ok (.iload 4, 2) := by decide +kernel
theorem dX10_addJoint_111 : decode cX10_addJoint 111 = .ok (.iastore, 1) := by decide +kernel
theorem dX10_addJoint_112 : decode cX10_addJoint 112 = .ok (.aload_n 0, 1) := by decide +kernel
theorem dX10_addJoint_113 : decode cX10_addJoint 113 = .ok (.getfield 40, 3) := by decide +kernel
theorem dX10_addJoint_116 : decode cX10_addJoint 116 = .ok (.aload_n 0, 1) := by decide +kernel
theorem dX10_addJoint_117 : decode cX10_addJoint 117 = .ok (.getfield 25, 3) := by decide +kernel
theorem dX10_addJoint_120 : decode cX10_addJoint 120 = .ok (.iload 5, 2) := by decide +kernel
theorem dX10_addJoint_122 : decode cX10_addJoint 122 = .ok (.iastore, 1) := by decide +kernel
theorem dX10_addJoint_123 : decode cX10_addJoint 123 = .ok (.aload_n 0, 1) := by decide +kernel
theorem dX10_addJoint_124 : decode cX10_addJoint 124 = .ok (.dup, 1) := by decide +kernel
theorem dX10_addJoint_125 : decode cX10_addJoint 125 = .ok (.getfield 25, 3) := by decide +kernel
theorem dX10_addJoint_128 : decode cX10_addJoint 128 = .ok (.iconst 1, 1) := by decide +kernel
theorem dX10_addJoint_129 : decode cX10_addJoint 129 = .ok (.iadd, 1) := by decide +kernel
theorem dX10_addJoint_130 : decode cX10_addJoint 130 = .ok (.putfield 25, 3) := by decide +kernel
theorem dX10_addJoint_133 : decode cX10_addJoint 133 = .ok (.aload_n 0, 1) := by decide +kernel
theorem dX10_addJoint_134 : decode cX10_addJoint 134 = .ok (.getfield 25, 3) := by decide +kernel
theorem dX10_addJoint_137 : decode cX10_addJoint 137 = .ok (.iconst 1, 1) := by decide +kernel
theorem dX10_addJoint_138 : decode cX10_addJoint 138 = .ok (.isub, 1) := by decide +kernel
theorem dX10_addJoint_139 : decode cX10_addJoint 139 = .ok (.ireturn, 1) := by decide +kernel
theorem dX10_hasTimber_0 : decode cX10_hasTimber 0 = .ok (.iload_n 1, 1) := by decide +kernel
theorem dX10_hasTimber_1 : decode cX10_hasTimber 1 = .ok (.ifCond .lt 21, 3) := by decide +kernel
theorem dX10_hasTimber_4 : decode cX10_hasTimber 4 = .ok (.iload_n 1, 1) := by decide +kernel
theorem dX10_hasTimber_5 : decode cX10_hasTimber 5 = .ok (.aload_n 0, 1) := by decide +kernel
theorem dX10_hasTimber_6 : decode cX10_hasTimber 6 = .ok (.getfield 9, 3) := by decide +kernel
theorem dX10_hasTimber_9 : decode cX10_hasTimber 9 = .ok (.if_icmp .ge 13, 3) := by decide +kernel
theorem dX10_hasTimber_12 : decode cX10_hasTimber 12 = .ok (.iload_n 1, 1) := by decide +kernel
theorem dX10_hasTimber_13 : decode cX10_hasTimber 13 = .ok (.bipush 16, 2) := by decide +kernel
theorem dX10_hasTimber_15 : decode cX10_hasTimber 15 = .ok (.if_icmp .ge 7, 3) := by decide +kernel
theorem dX10_hasTimber_18 : decode cX10_hasTimber 18 = .ok (.iconst 1, 1) := by decide +kernel
theorem dX10_hasTimber_19 : decode cX10_hasTimber 19 = .ok (.goto 4, 3) := by decide +kernel
theorem dX10_hasTimber_22 : decode cX10_hasTimber 22 = .ok (.iconst 0, 1) := by decide +kernel
theorem dX10_hasTimber_23 : decode cX10_hasTimber 23 = .ok (.ireturn, 1) := by decide +kernel
theorem dX10_hasJoint_0 : decode cX10_hasJoint 0 = .ok (.iload_n 1, 1) := by decide +kernel
theorem dX10_hasJoint_1 : decode cX10_hasJoint 1 = .ok (.ifCond .lt 21, 3) := by decide +kernel
theorem dX10_hasJoint_4 : decode cX10_hasJoint 4 = .ok (.iload_n 1, 1) := by decide +kernel
theorem dX10_hasJoint_5 : decode cX10_hasJoint 5 = .ok (.aload_n 0, 1) := by decide +kernel
theorem dX10_hasJoint_6 : decode cX10_hasJoint 6 = .ok (.getfield 25, 3) := by decide +kernel
theorem dX10_hasJoint_9 : decode cX10_hasJoint 9 = .ok (.if_icmp .ge 13, 3) := by decide +kernel
theorem dX10_hasJoint_12 : decode cX10_hasJoint 12 = .ok (.iload_n 1, 1) := by decide +kernel
theorem dX10_hasJoint_13 : decode cX10_hasJoint 13 = .ok (.bipush 48, 2) := by decide +kernel
theorem dX10_hasJoint_15 : decode cX10_hasJoint 15 = .ok (.if_icmp .ge 7, 3) := by decide +kernel
theorem dX10_hasJoint_18 : decode cX10_hasJoint 18 = .ok (.iconst 1, 1) := by decide +kernel
theorem dX10_hasJoint_19 : decode cX10_hasJoint 19 = .ok (.goto 4, 3) := by decide +kernel
theorem dX10_hasJoint_22 : decode cX10_hasJoint 22 = .ok (.iconst 0, 1) := by decide +kernel
theorem dX10_hasJoint_23 : decode cX10_hasJoint 23 = .ok (.ireturn, 1) := by decide +kernel
theorem dX10_timbersUpTo_0 : decode cX10_timbersUpTo 0 = .ok (.iconst 0, 1) := by decide +kernel
theorem dX10_timbersUpTo_1 : decode cX10_timbersUpTo 1 = .ok (.istore_n 2, 1) := by decide +kernel
theorem dX10_timbersUpTo_2 : decode cX10_timbersUpTo 2 = .ok (.iload_n 2, 1) := by decide +kernel
theorem dX10_timbersUpTo_3 : decode cX10_timbersUpTo 3 = .ok (.aload_n 0, 1) := by decide +kernel
theorem dX10_timbersUpTo_4 : decode cX10_timbersUpTo 4 = .ok (.getfield 9, 3) := by decide +kernel
theorem dX10_timbersUpTo_7 : decode cX10_timbersUpTo 7 = .ok (.if_icmp .ge 25, 3) := by decide +kernel
theorem dX10_timbersUpTo_10 : decode cX10_timbersUpTo 10 = .ok (.iload_n 2, 1) := by decide +kernel
theorem dX10_timbersUpTo_11 : decode cX10_timbersUpTo 11 = .ok (.bipush 16, 2) := by decide +kernel
theorem dX10_timbersUpTo_13 : decode cX10_timbersUpTo 13 = .ok (.if_icmp .ge 19, 3) := by decide +kernel
theorem dX10_timbersUpTo_16 : decode cX10_timbersUpTo 16 = .ok (.aload_n 0, 1) := by decide +kernel
theorem dX10_timbersUpTo_17 : decode cX10_timbersUpTo 17 = .ok (.getfield 22, 3) := by decide +kernel
theorem dX10_timbersUpTo_20 : decode cX10_timbersUpTo 20 = .ok (.iload_n 2, 1) := by decide +kernel
theorem dX10_timbersUpTo_21 : decode cX10_timbersUpTo 21 = .ok (.iaload, 1) := by decide +kernel
theorem dX10_timbersUpTo_22 : decode cX10_timbersUpTo 22 = .ok (.iload_n 1, 1) := by decide +kernel
theorem dX10_timbersUpTo_23 : decode cX10_timbersUpTo 23 = .ok (.if_icmp .gt 9, 3) := by decide +kernel
theorem dX10_timbersUpTo_26 : decode cX10_timbersUpTo 26 = .ok (.iinc 2 1, 3) := by decide +kernel
theorem dX10_timbersUpTo_29 : decode cX10_timbersUpTo 29 = .ok (.goto (-27), 3) := by decide +kernel
theorem dX10_timbersUpTo_32 : decode cX10_timbersUpTo 32 = .ok (.iload_n 2, 1) := by decide +kernel
theorem dX10_timbersUpTo_33 : decode cX10_timbersUpTo 33 = .ok (.ireturn, 1) := by decide +kernel
theorem dX10_jointsUpTo_0 : decode cX10_jointsUpTo 0 = .ok (.iconst 0, 1) := by decide +kernel
theorem dX10_jointsUpTo_1 : decode cX10_jointsUpTo 1 = .ok (.istore_n 2, 1) := by decide +kernel
theorem dX10_jointsUpTo_2 : decode cX10_jointsUpTo 2 = .ok (.iload_n 2, 1) := by decide +kernel
theorem dX10_jointsUpTo_3 : decode cX10_jointsUpTo 3 = .ok (.aload_n 0, 1) := by decide +kernel
theorem dX10_jointsUpTo_4 : decode cX10_jointsUpTo 4 = .ok (.getfield 25, 3) := by decide +kernel
theorem dX10_jointsUpTo_7 : decode cX10_jointsUpTo 7 = .ok (.if_icmp .ge 25, 3) := by decide +kernel
theorem dX10_jointsUpTo_10 : decode cX10_jointsUpTo 10 = .ok (.iload_n 2, 1) := by decide +kernel
theorem dX10_jointsUpTo_11 : decode cX10_jointsUpTo 11 = .ok (.bipush 48, 2) := by decide +kernel
theorem dX10_jointsUpTo_13 : decode cX10_jointsUpTo 13 = .ok (.if_icmp .ge 19, 3) := by decide +kernel
theorem dX10_jointsUpTo_16 : decode cX10_jointsUpTo 16 = .ok (.aload_n 0, 1) := by decide +kernel
theorem dX10_jointsUpTo_17 : decode cX10_jointsUpTo 17 = .ok (.getfield 40, 3) := by decide +kernel
theorem dX10_jointsUpTo_20 : decode cX10_jointsUpTo 20 = .ok (.iload_n 2, 1) := by decide +kernel
theorem dX10_jointsUpTo_21 : decode cX10_jointsUpTo 21 = .ok (.iaload, 1) := by decide +kernel
theorem dX10_jointsUpTo_22 : decode cX10_jointsUpTo 22 = .ok (.iload_n 1, 1) := by decide +kernel
theorem dX10_jointsUpTo_23 : decode cX10_jointsUpTo 23 = .ok (.if_icmp .gt 9, 3) := by decide +kernel
theorem dX10_jointsUpTo_26 : decode cX10_jointsUpTo 26 = .ok (.iinc 2 1, 3) := by decide +kernel
theorem dX10_jointsUpTo_29 : decode cX10_jointsUpTo 29 = .ok (.goto (-27), 3) := by decide +kernel
theorem dX10_jointsUpTo_32 : decode cX10_jointsUpTo 32 = .ok (.iload_n 2, 1) := by decide +kernel
theorem dX10_jointsUpTo_33 : decode cX10_jointsUpTo 33 = .ok (.ireturn, 1) := by decide +kernel
theorem dX10_jointsOf_0 : decode cX10_jointsOf 0 = .ok (.iconst 0, 1) := by decide +kernel
theorem dX10_jointsOf_1 : decode cX10_jointsOf 1 = .ok (.istore_n 3, 1) := by decide +kernel
theorem dX10_jointsOf_2 : decode cX10_jointsOf 2 = .ok (.iconst 0, 1) := by decide +kernel
theorem dX10_jointsOf_3 : decode cX10_jointsOf 3 = .ok (.istore 4, 2) := by decide +kernel
theorem dX10_jointsOf_5 : decode cX10_jointsOf 5 = .ok (.iload 4, 2) := by decide +kernel
theorem dX10_jointsOf_7 : decode cX10_jointsOf 7 = .ok (.iload_n 2, 1) := by decide +kernel
theorem dX10_jointsOf_8 : decode cX10_jointsOf 8 = .ok (.if_icmp .ge 30, 3) := by decide +kernel
theorem dX10_jointsOf_11 : decode cX10_jointsOf 11 = .ok (.iload 4, 2) := by decide +kernel
theorem dX10_jointsOf_13 : decode cX10_jointsOf 13 = .ok (.bipush 48, 2) := by decide +kernel
theorem dX10_jointsOf_15 : decode cX10_jointsOf 15 = .ok (.if_icmp .ge 23, 3) := by decide +kernel
theorem dX10_jointsOf_18 : decode cX10_jointsOf 18 = .ok (.aload_n 0, 1) := by decide +kernel
theorem dX10_jointsOf_19 : decode cX10_jointsOf 19 = .ok (.getfield 28, 3) := by decide +kernel
theorem dX10_jointsOf_22 : decode cX10_jointsOf 22 = .ok (.iload 4, 2) := by decide +kernel
theorem dX10_jointsOf_24 : decode cX10_jointsOf 24 = .ok (.iaload, 1) := by decide +kernel
theorem dX10_jointsOf_25 : decode cX10_jointsOf 25 = .ok (.iload_n 1, 1) := by decide +kernel
theorem dX10_jointsOf_26 : decode cX10_jointsOf 26 = .ok (.if_icmp .ne 6, 3) := by decide +kernel
theorem dX10_jointsOf_29 : decode cX10_jointsOf 29 = .ok (.iinc 3 1, 3) := by decide +kernel
theorem dX10_jointsOf_32 : decode cX10_jointsOf 32 = .ok (.iinc 4 1, 3) := by decide +kernel
theorem dX10_jointsOf_35 : decode cX10_jointsOf 35 = .ok (.goto (-30), 3) := by decide +kernel
theorem dX10_jointsOf_38 : decode cX10_jointsOf 38 = .ok (.iload_n 3, 1) := by decide +kernel
theorem dX10_jointsOf_39 : decode cX10_jointsOf 39 = .ok (.ireturn, 1) := by decide +kernel
theorem dX10_kindOf_0 : decode cX10_kindOf 0 = .ok (.aload_n 0, 1) := by decide +kernel
theorem dX10_kindOf_1 : decode cX10_kindOf 1 = .ok (.getfield 15, 3) := by decide +kernel
theorem dX10_kindOf_4 : decode cX10_kindOf 4 = .ok (.iload_n 1, 1) := by decide +kernel
theorem dX10_kindOf_5 : decode cX10_kindOf 5 = .ok (.invokestatic 51, 3) := by decide +kernel
theorem dX10_kindOf_8 : decode cX10_kindOf 8 = .ok (.ireturn, 1) := by decide +kernel
theorem dX10_lengthOf_0 : decode cX10_lengthOf 0 = .ok (.aload_n 0, 1) := by decide +kernel
theorem dX10_lengthOf_1 : decode cX10_lengthOf 1 = .ok (.getfield 19, 3) := by decide +kernel
theorem dX10_lengthOf_4 : decode cX10_lengthOf 4 = .ok (.iload_n 1, 1) := by decide +kernel
theorem dX10_lengthOf_5 : decode cX10_lengthOf 5 = .ok (.invokestatic 51, 3) := by decide +kernel
theorem dX10_lengthOf_8 : decode cX10_lengthOf 8 = .ok (.ireturn, 1) := by decide +kernel
theorem dX10_dayOf_0 : decode cX10_dayOf 0 = .ok (.aload_n 0, 1) := by decide +kernel
theorem dX10_dayOf_1 : decode cX10_dayOf 1 = .ok (.getfield 22, 3) := by decide +kernel
theorem dX10_dayOf_4 : decode cX10_dayOf 4 = .ok (.iload_n 1, 1) := by decide +kernel
theorem dX10_dayOf_5 : decode cX10_dayOf 5 = .ok (.invokestatic 51, 3) := by decide +kernel
theorem dX10_dayOf_8 : decode cX10_dayOf 8 = .ok (.ireturn, 1) := by decide +kernel
theorem dX10_timberOf_0 : decode cX10_timberOf 0 = .ok (.aload_n 0, 1) := by decide +kernel
theorem dX10_timberOf_1 : decode cX10_timberOf 1 = .ok (.getfield 28, 3) := by decide +kernel
theorem dX10_timberOf_4 : decode cX10_timberOf 4 = .ok (.iload_n 1, 1) := by decide +kernel
theorem dX10_timberOf_5 : decode cX10_timberOf 5 = .ok (.invokestatic 51, 3) := by decide +kernel
theorem dX10_timberOf_8 : decode cX10_timberOf 8 = .ok (.ireturn, 1) := by decide +kernel
theorem dX10_placeOf_0 : decode cX10_placeOf 0 = .ok (.aload_n 0, 1) := by decide +kernel
theorem dX10_placeOf_1 : decode cX10_placeOf 1 = .ok (.getfield 31, 3) := by decide +kernel
theorem dX10_placeOf_4 : decode cX10_placeOf 4 = .ok (.iload_n 1, 1) := by decide +kernel
theorem dX10_placeOf_5 : decode cX10_placeOf 5 = .ok (.invokestatic 51, 3) := by decide +kernel
theorem dX10_placeOf_8 : decode cX10_placeOf 8 = .ok (.ireturn, 1) := by decide +kernel
theorem dX10_sortOf_0 : decode cX10_sortOf 0 = .ok (.aload_n 0, 1) := by decide +kernel
theorem dX10_sortOf_1 : decode cX10_sortOf 1 = .ok (.getfield 34, 3) := by decide +kernel
theorem dX10_sortOf_4 : decode cX10_sortOf 4 = .ok (.iload_n 1, 1) := by decide +kernel
theorem dX10_sortOf_5 : decode cX10_sortOf 5 = .ok (.invokestatic 51, 3) := by decide +kernel
theorem dX10_sortOf_8 : decode cX10_sortOf 8 = .ok (.ireturn, 1) := by decide +kernel
theorem dX10_sizeOf_0 : decode cX10_sizeOf 0 = .ok (.aload_n 0, 1) := by decide +kernel
theorem dX10_sizeOf_1 : decode cX10_sizeOf 1 = .ok (.getfield 37, 3) := by decide +kernel
theorem dX10_sizeOf_4 : decode cX10_sizeOf 4 = .ok (.iload_n 1, 1) := by decide +kernel
theorem dX10_sizeOf_5 : decode cX10_sizeOf 5 = .ok (.invokestatic 51, 3) := by decide +kernel
theorem dX10_sizeOf_8 : decode cX10_sizeOf 8 = .ok (.ireturn, 1) := by decide +kernel
theorem dX11_init_0 : decode cX11_init 0 = .ok (.aload_n 0, 1) := by decide +kernel
theorem dX11_init_1 : decode cX11_init 1 = .ok (.invokespecial 3, 3) := by decide +kernel
theorem dX11_init_4 : decode cX11_init 4 = .ok (.aload_n 0, 1) := by decide +kernel
theorem dX11_init_5 : decode cX11_init 5 = .ok (.new 9, 3) := by decide +kernel
theorem dX11_init_8 : decode cX11_init 8 = .ok (.dup, 1) := by decide +kernel
theorem dX11_init_9 : decode cX11_init 9 = .ok (.invokespecial 11, 3) := by decide +kernel
theorem dX11_init_12 : decode cX11_init 12 = .ok (.putfield 12, 3) := by decide +kernel
theorem dX11_init_15 : decode cX11_init 15 = .ok (.aload_n 0, 1) := by decide +kernel
theorem dX11_init_16 : decode cX11_init 16 = .ok (.new 16, 3) := by decide +kernel
theorem dX11_init_19 : decode cX11_init 19 = .ok (.dup, 1) := by decide +kernel
theorem dX11_init_20 : decode cX11_init 20 = .ok (.invokespecial 18, 3) := by decide +kernel
theorem dX11_init_23 : decode cX11_init 23 = .ok (.putfield 19, 3) := by decide +kernel
theorem dX11_init_26 : decode cX11_init 26 = .ok (.aload_n 0, 1) := by decide +kernel
theorem dX11_init_27 : decode cX11_init 27 = .ok (.iconst 2, 1) := by decide +kernel
theorem dX11_init_28 : decode cX11_init 28 = .ok (.anewarray 23, 3) := by decide +kernel
theorem dX11_init_31 : decode cX11_init 31 = .ok (.dup, 1) := by decide +kernel
theorem dX11_init_32 : decode cX11_init 32 = .ok (.iconst 0, 1) := by decide +kernel
theorem dX11_init_33 : decode cX11_init 33 = .ok (.new 23, 3) := by decide +kernel
theorem dX11_init_36 : decode cX11_init 36 = .ok (.dup, 1) := by decide +kernel
theorem dX11_init_37 : decode cX11_init 37 = .ok (.invokespecial 25, 3) := by decide +kernel
theorem dX11_init_40 : decode cX11_init 40 = .ok (.aastore, 1) := by decide +kernel
theorem dX11_init_41 : decode cX11_init 41 = .ok (.dup, 1) := by decide +kernel
theorem dX11_init_42 : decode cX11_init 42 = .ok (.iconst 1, 1) := by decide +kernel
theorem dX11_init_43 : decode cX11_init 43 = .ok (.new 23, 3) := by decide +kernel
theorem dX11_init_46 : decode cX11_init 46 = .ok (.dup, 1) := by decide +kernel
theorem dX11_init_47 : decode cX11_init 47 = .ok (.invokespecial 25, 3) := by decide +kernel
theorem dX11_init_50 : decode cX11_init 50 = .ok (.aastore, 1) := by decide +kernel
theorem dX11_init_51 : decode cX11_init 51 = .ok (.putfield 26, 3) := by decide +kernel
theorem dX11_init_54 : decode cX11_init 54 = .ok (.aload_n 0, 1) := by decide +kernel
theorem dX11_init_55 : decode cX11_init 55 = .ok (.new 30, 3) := by decide +kernel
theorem dX11_init_58 : decode cX11_init 58 = .ok (.dup, 1) := by decide +kernel
theorem dX11_init_59 : decode cX11_init 59 = .ok (.invokespecial 32, 3) := by decide +kernel
theorem dX11_init_62 : decode cX11_init 62 = .ok (.putfield 33, 3) := by decide +kernel
theorem dX11_init_65 : decode cX11_init 65 = .ok (.aload_n 0, 1) := by decide +kernel
theorem dX11_init_66 : decode cX11_init 66 = .ok (.new 37, 3) := by decide +kernel
theorem dX11_init_69 : decode cX11_init 69 = .ok (.dup, 1) := by decide +kernel
theorem dX11_init_70 : decode cX11_init 70 = .ok (.invokespecial 39, 3) := by decide +kernel
theorem dX11_init_73 : decode cX11_init 73 = .ok (.putfield 40, 3) := by decide +kernel
theorem dX11_init_76 : decode cX11_init 76 = .ok (.aload_n 0, 1) := by decide +kernel
theorem dX11_init_77 : decode cX11_init 77 = .ok (.iconst 2, 1) := by decide +kernel
theorem dX11_init_78 : decode cX11_init 78 = .ok (.anewarray 44, 3) := by decide +kernel
theorem dX11_init_81 : decode cX11_init 81 = .ok (.dup, 1) := by decide +kernel
theorem dX11_init_82 : decode cX11_init 82 = .ok (.iconst 0, 1) := by decide +kernel
theorem dX11_init_83 : decode cX11_init 83 = .ok (.new 44, 3) := by decide +kernel
theorem dX11_init_86 : decode cX11_init 86 = .ok (.dup, 1) := by decide +kernel
theorem dX11_init_87 : decode cX11_init 87 = .ok (.invokespecial 46, 3) := by decide +kernel
theorem dX11_init_90 : decode cX11_init 90 = .ok (.aastore, 1) := by decide +kernel
theorem dX11_init_91 : decode cX11_init 91 = .ok (.dup, 1) := by decide +kernel
theorem dX11_init_92 : decode cX11_init 92 = .ok (.iconst 1, 1) := by decide +kernel
theorem dX11_init_93 : decode cX11_init 93 = .ok (.new 44, 3) := by decide +kernel
theorem dX11_init_96 : decode cX11_init 96 = .ok (.dup, 1) := by decide +kernel
theorem dX11_init_97 : decode cX11_init 97 = .ok (.invokespecial 46, 3) := by decide +kernel
theorem dX11_init_100 : decode cX11_init 100 = .ok (.aastore, 1) := by decide +kernel
theorem dX11_init_101 : decode cX11_init 101 = .ok (.putfield 47, 3) := by decide +kernel
theorem dX11_init_104 : decode cX11_init 104 = .ok (.aload_n 0, 1) := by decide +kernel
theorem dX11_init_105 : decode cX11_init 105 = .ok (.iconst 2, 1) := by decide +kernel
theorem dX11_init_106 : decode cX11_init 106 = .ok (.anewarray 51, 3) := by decide +kernel
theorem dX11_init_109 : decode cX11_init 109 = .ok (.dup, 1) := by decide +kernel
theorem dX11_init_110 : decode cX11_init 110 = .ok (.iconst 0, 1) := by decide +kernel
theorem dX11_init_111 : decode cX11_init 111 = .ok (.new 51, 3) := by decide +kernel
theorem dX11_init_114 : decode cX11_init 114 = .ok (.dup, 1) := by decide +kernel
theorem dX11_init_115 : decode cX11_init 115 = .ok (.invokespecial 53, 3) := by decide +kernel
theorem dX11_init_118 : decode cX11_init 118 = .ok (.aastore, 1) := by decide +kernel
theorem dX11_init_119 : decode cX11_init 119 = .ok (.dup, 1) := by decide +kernel
theorem dX11_init_120 : decode cX11_init 120 = .ok (.iconst 1, 1) := by decide +kernel
theorem dX11_init_121 : decode cX11_init 121 = .ok (.new 51, 3) := by decide +kernel
theorem dX11_init_124 : decode cX11_init 124 = .ok (.dup, 1) := by decide +kernel
theorem dX11_init_125 : decode cX11_init 125 = .ok (.invokespecial 53, 3) := by decide +kernel
theorem dX11_init_128 : decode cX11_init 128 = .ok (.aastore, 1) := by decide +kernel
theorem dX11_init_129 : decode cX11_init 129 = .ok (.putfield 54, 3) := by decide +kernel
theorem dX11_init_132 : decode cX11_init 132 = .ok (.aload_n 0, 1) := by decide +kernel
theorem dX11_init_133 : decode cX11_init 133 = .ok (.new 58, 3) := by decide +kernel
theorem dX11_init_136 : decode cX11_init 136 = .ok (.dup, 1) := by decide +kernel
theorem dX11_init_137 : decode cX11_init 137 = .ok (.invokespecial 60, 3) := by decide +kernel
theorem dX11_init_140 : decode cX11_init 140 = .ok (.putfield 61, 3) := by decide +kernel
theorem dX11_init_143 : decode cX11_init 143 = .ok (.aload_n 0, 1) := by decide +kernel
theorem dX11_init_144 : decode cX11_init 144 = .ok (.new 65, 3) := by decide +kernel
theorem dX11_init_147 : decode cX11_init 147 = .ok (.dup, 1) := by decide +kernel
theorem dX11_init_148 : decode cX11_init 148 = .ok (.invokespecial 67, 3) := by decide +kernel
theorem dX11_init_151 : decode cX11_init 151 = .ok (.putfield 68, 3) := by decide +kernel
theorem dX11_init_154 : decode cX11_init 154 = .ok (.aload_n 0, 1) := by decide +kernel
theorem dX11_init_155 : decode cX11_init 155 = .ok (.new 72, 3) := by decide +kernel
theorem dX11_init_158 : decode cX11_init 158 = .ok (.dup, 1) := by decide +kernel
theorem dX11_init_159 : decode cX11_init 159 = .ok (.invokespecial 74, 3) := by decide +kernel
theorem dX11_init_162 : decode cX11_init 162 = .ok (.putfield 75, 3) := by decide +kernel
theorem dX11_init_165 : decode cX11_init 165 = .ok (.aload_n 0, 1) := by decide +kernel
theorem dX11_init_166 : decode cX11_init 166 = .ok (.new 79, 3) := by decide +kernel
theorem dX11_init_169 : decode cX11_init 169 = .ok (.dup, 1) := by decide +kernel
theorem dX11_init_170 : decode cX11_init 170 = .ok (.invokespecial 81, 3) := by decide +kernel
theorem dX11_init_173 : decode cX11_init 173 = .ok (.putfield 82, 3) := by decide +kernel
theorem dX11_init_176 : decode cX11_init 176 = .ok (.aload_n 0, 1) := by decide +kernel
theorem dX11_init_177 : decode cX11_init 177 = .ok (.sipush 200, 3) := by decide +kernel
theorem dX11_init_180 : decode cX11_init 180 = .ok (.newarray .int, 2) := by decide +kernel
theorem dX11_init_182 : decode cX11_init 182 = .ok (.putfield 86, 3) := by decide +kernel
theorem dX11_init_185 : decode cX11_init 185 = .ok (.aload_n 0, 1) := by decide +kernel
theorem dX11_init_186 : decode cX11_init 186 = .ok (.iconst 0, 1) := by decide +kernel
theorem dX11_init_187 : decode cX11_init 187 = .ok (.putfield 90, 3) := by decide +kernel
theorem dX11_init_190 : decode cX11_init 190 = .ok (.aload_n 0, 1) := by decide +kernel
theorem dX11_init_191 : decode cX11_init 191 = .ok (.new 23, 3) := by decide +kernel
theorem dX11_init_194 : decode cX11_init 194 = .ok (.dup, 1) := by decide +kernel
theorem dX11_init_195 : decode cX11_init 195 = .ok (.invokespecial 25, 3) := by decide +kernel
theorem dX11_init_198 : decode cX11_init 198 = .ok (.putfield 94, 3) := by decide +kernel
theorem dX11_init_201 : decode cX11_init 201 = .ok (.aload_n 0, 1) := by decide +kernel
theorem dX11_init_202 : decode cX11_init 202 = .ok (.iconst 0, 1) := by decide +kernel
theorem dX11_init_203 : decode cX11_init 203 = .ok (.putfield 98, 3) := by decide +kernel
theorem dX11_init_206 : decode cX11_init 206 = .ok (.aload_n 0, 1) := by decide +kernel
theorem dX11_init_207 : decode cX11_init 207 = .ok (.iconst (-1), 1) := by decide +kernel
theorem dX11_init_208 : decode cX11_init 208 = .ok (.putfield 101, 3) := by decide +kernel
theorem dX11_init_211 : decode cX11_init 211 = .ok (.aload_n 0, 1) := by decide +kernel
theorem dX11_init_212 : decode cX11_init 212 = .ok (.iconst 1, 1) := by decide +kernel
theorem dX11_init_213 : decode cX11_init 213 = .ok (.putfield 104, 3) := by decide +kernel
theorem dX11_init_216 : decode cX11_init 216 = .ok (.return_, 1) := by decide +kernel
theorem dX11_days_0 : decode cX11_days 0 = .ok (.iload_n 1, 1) := by decide +kernel
theorem dX11_days_1 : decode cX11_days 1 = .ok (.iconst 1, 1) := by decide +kernel
theorem dX11_days_2 : decode cX11_days 2 = .ok (.if_icmp .lt 22, 3) := by decide +kernel
theorem dX11_days_5 : decode cX11_days 5 = .ok (.iload_n 1, 1) := by decide +kernel
theorem dX11_days_6 : decode cX11_days 6 = .ok (.sipush 1000, 3) := by decide +kernel
theorem dX11_days_9 : decode cX11_days 9 = .ok (.if_icmp .gt 15, 3) := by decide +kernel
theorem dX11_days_12 : decode cX11_days 12 = .ok (.aload_n 0, 1) := by decide +kernel
theorem dX11_days_13 : decode cX11_days 13 = .ok (.getfield 98, 3) := by decide +kernel
theorem dX11_days_16 : decode cX11_days 16 = .ok (.iload_n 1, 1) := by decide +kernel
theorem dX11_days_17 : decode cX11_days 17 = .ok (.iadd, 1) := by decide +kernel
theorem dX11_days_18 : decode cX11_days 18 = .ok (.sipush 9999, 3) := by decide +kernel
theorem dX11_days_21 : decode cX11_days 21 = .ok (.if_icmp .le 5, 3) := by decide +kernel
theorem dX11_days_24 : decode cX11_days 24 = .ok (.iconst (-1), 1) := by decide +kernel
theorem dX11_days_25 : decode cX11_days 25 = .ok (.ireturn, 1) := by decide +kernel
theorem dX11_days_26 : decode cX11_days 26 = .ok (.aload_n 0, 1) := by decide +kernel
theorem dX11_days_27 : decode cX11_days 27 = .ok (.dup, 1) := by decide +kernel
theorem dX11_days_28 : decode cX11_days 28 = .ok (.getfield 98, 3) := by decide +kernel
theorem dX11_days_31 : decode cX11_days 31 = .ok (.iload_n 1, 1) := by decide +kernel
theorem dX11_days_32 : decode cX11_days 32 = .ok (.iadd, 1) := by decide +kernel
theorem dX11_days_33 : decode cX11_days 33 = .ok (.putfield 98, 3) := by decide +kernel
theorem dX11_days_36 : decode cX11_days 36 = .ok (.aload_n 0, 1) := by decide +kernel
theorem dX11_days_37 : decode cX11_days 37 = .ok (.getfield 98, 3) := by decide +kernel
theorem dX11_days_40 : decode cX11_days 40 = .ok (.ireturn, 1) := by decide +kernel
theorem dX11_view_0 : decode cX11_view 0 = .ok (.iload_n 1, 1) := by decide +kernel
theorem dX11_view_1 : decode cX11_view 1 = .ok (.iconst (-1), 1) := by decide +kernel
theorem dX11_view_2 : decode cX11_view 2 = .ok (.if_icmp .lt 11, 3) := by decide +kernel
theorem dX11_view_5 : decode cX11_view 5 = .ok (.iload_n 1, 1) := by decide +kernel
theorem dX11_view_6 : decode cX11_view 6 = .ok (.aload_n 0, 1) := by decide +kernel
theorem dX11_view_7 : decode cX11_view 7 = .ok (.getfield 98, 3) := by decide +kernel
theorem dX11_view_10 : decode cX11_view 10 = .ok (.if_icmp .le 5, 3) := by decide +kernel
theorem dX11_view_13 : decode cX11_view 13 = .ok (.iconst 0, 1) := by decide +kernel
theorem dX11_view_14 : decode cX11_view 14 = .ok (.ireturn, 1) := by decide +kernel
theorem dX11_view_15 : decode cX11_view 15 = .ok (.aload_n 0, 1) := by decide +kernel
theorem dX11_view_16 : decode cX11_view 16 = .ok (.iload_n 1, 1) := by decide +kernel
theorem dX11_view_17 : decode cX11_view 17 = .ok (.putfield 101, 3) := by decide +kernel
theorem dX11_view_20 : decode cX11_view 20 = .ok (.aload_n 0, 1) := by decide +kernel
theorem dX11_view_21 : decode cX11_view 21 = .ok (.getfield 40, 3) := by decide +kernel
theorem dX11_view_24 : decode cX11_view 24 = .ok (.aload_n 0, 1) := by decide +kernel
theorem dX11_view_25 : decode cX11_view 25 = .ok (.invokevirtual 108, 3) := by decide +kernel
theorem dX11_view_28 : decode cX11_view 28 = .ok (.invokevirtual 112, 3) := by decide +kernel
theorem dX11_view_31 : decode cX11_view 31 = .ok (.aload_n 0, 1) := by decide +kernel
theorem dX11_view_32 : decode cX11_view 32 = .ok (.iconst 1, 1) := by decide +kernel
theorem dX11_view_33 : decode cX11_view 33 = .ok (.putfield 104, 3) := by decide +kernel
theorem dX11_view_36 : decode cX11_view 36 = .ok (.iconst 1, 1) := by decide +kernel
theorem dX11_view_37 : decode cX11_view 37 = .ok (.ireturn, 1) := by decide +kernel
theorem dX11_timber_0 : decode cX11_timber 0 = .ok (.aload_n 0, 1) := by decide +kernel
theorem dX11_timber_1 : decode cX11_timber 1 = .ok (.getfield 33, 3) := by decide +kernel
theorem dX11_timber_4 : decode cX11_timber 4 = .ok (.iload_n 1, 1) := by decide +kernel
theorem dX11_timber_5 : decode cX11_timber 5 = .ok (.iload_n 2, 1) := by decide +kernel
theorem dX11_timber_6 : decode cX11_timber 6 = .ok (.aload_n 0, 1) := by decide +kernel
theorem dX11_timber_7 : decode cX11_timber 7 = .ok (.getfield 98, 3) := by decide +kernel
theorem dX11_timber_10 : decode cX11_timber 10 = .ok (.invokevirtual 116, 3) := by decide +kernel
theorem dX11_timber_13 : decode cX11_timber 13 = .ok (.ireturn, 1) := by decide +kernel
theorem dX11_joint_0 : decode cX11_joint 0 = .ok (.aload_n 0, 1) := by decide +kernel
theorem dX11_joint_1 : decode cX11_joint 1 = .ok (.getfield 33, 3) := by decide +kernel
theorem dX11_joint_4 : decode cX11_joint 4 = .ok (.iload_n 1, 1) := by decide +kernel
theorem dX11_joint_5 : decode cX11_joint 5 = .ok (.iload_n 2, 1) := by decide +kernel
theorem dX11_joint_6 : decode cX11_joint 6 = .ok (.iload_n 3, 1) := by decide +kernel
theorem dX11_joint_7 : decode cX11_joint 7 = .ok (.iload 4, 2) := by decide +kernel
theorem dX11_joint_9 : decode cX11_joint 9 = .ok (.aload_n 0, 1) := by decide +kernel
theorem dX11_joint_10 : decode cX11_joint 10 = .ok (.getfield 98, 3) := by decide +kernel
theorem dX11_joint_13 : decode cX11_joint 13 = .ok (.invokevirtual 120, 3) := by decide +kernel
theorem dX11_joint_16 : decode cX11_joint 16 = .ok (.istore 5, 2) := by decide +kernel
theorem dX11_joint_18 : decode cX11_joint 18 = .ok (.aload_n 0, 1) := by decide +kernel
theorem dX11_joint_19 : decode cX11_joint 19 = .ok (.iconst 1, 1) := by decide +kernel
theorem dX11_joint_20 : decode cX11_joint 20 = .ok (.putfield 104, 3) := by decide +kernel
theorem dX11_joint_23 : decode cX11_joint 23 = .ok (.iload 5, 2) := by decide +kernel
theorem dX11_joint_25 : decode cX11_joint 25 = .ok (.ireturn, 1) := by decide +kernel
theorem dX11_feed_0 : decode cX11_feed 0 = .ok (.aload_n 0, 1) := by decide +kernel
theorem dX11_feed_1 : decode cX11_feed 1 = .ok (.getfield 12, 3) := by decide +kernel
theorem dX11_feed_4 : decode cX11_feed 4 = .ok (.bipush 20, 2) := by decide +kernel
theorem dX11_feed_6 : decode cX11_feed 6 = .ok (.invokevirtual 124, 3) := by decide +kernel
theorem dX11_feed_9 : decode cX11_feed 9 = .ok (.ifCond .ne 5, 3) := by decide +kernel
theorem dX11_feed_12 : decode cX11_feed 12 = .ok (.iconst (-1), 1) := by decide +kernel
theorem dX11_feed_13 : decode cX11_feed 13 = .ok (.ireturn, 1) := by decide +kernel
theorem dX11_feed_14 : decode cX11_feed 14 = .ok (.aload_n 0, 1) := by decide +kernel
theorem dX11_feed_15 : decode cX11_feed 15 = .ok (.getfield 12, 3) := by decide +kernel
theorem dX11_feed_18 : decode cX11_feed 18 = .ok (.iload_n 1, 1) := by decide +kernel
theorem dX11_feed_19 : decode cX11_feed 19 = .ok (.invokevirtual 128, 3) := by decide +kernel
theorem dX11_feed_22 : decode cX11_feed 22 = .ok (.aload_n 0, 1) := by decide +kernel
theorem dX11_feed_23 : decode cX11_feed 23 = .ok (.getfield 12, 3) := by decide +kernel
theorem dX11_feed_26 : decode cX11_feed 26 = .ok (.iload_n 2, 1) := by decide +kernel
theorem dX11_feed_27 : decode cX11_feed 27 = .ok (.invokevirtual 128, 3) := by decide +kernel
theorem dX11_feed_30 : decode cX11_feed 30 = .ok (.aload_n 0, 1) := by decide +kernel
theorem dX11_feed_31 : decode cX11_feed 31 = .ok (.getfield 12, 3) := by decide +kernel
theorem dX11_feed_34 : decode cX11_feed 34 = .ok (.iload_n 3, 1) := by decide +kernel
theorem dX11_feed_35 : decode cX11_feed 35 = .ok (.invokevirtual 128, 3) := by decide +kernel
theorem dX11_feed_38 : decode cX11_feed 38 = .ok (.aload_n 0, 1) := by decide +kernel
theorem dX11_feed_39 : decode cX11_feed 39 = .ok (.getfield 12, 3) := by decide +kernel
theorem dX11_feed_42 : decode cX11_feed 42 = .ok (.iload 4, 2) := by decide +kernel
theorem dX11_feed_44 : decode cX11_feed 44 = .ok (.invokevirtual 128, 3) := by decide +kernel
theorem dX11_feed_47 : decode cX11_feed 47 = .ok (.aload_n 0, 1) := by decide +kernel
theorem dX11_feed_48 : decode cX11_feed 48 = .ok (.getfield 12, 3) := by decide +kernel
theorem dX11_feed_51 : decode cX11_feed 51 = .ok (.iload 5, 2) := by decide +kernel
theorem dX11_feed_53 : decode cX11_feed 53 = .ok (.invokevirtual 128, 3) := by decide +kernel
theorem dX11_feed_56 : decode cX11_feed 56 = .ok (.aload_n 0, 1) := by decide +kernel
theorem dX11_feed_57 : decode cX11_feed 57 = .ok (.getfield 12, 3) := by decide +kernel
theorem dX11_feed_60 : decode cX11_feed 60 = .ok (.invokevirtual 131, 3) := by decide +kernel
theorem dX11_feed_63 : decode cX11_feed 63 = .ok (.ireturn, 1) := by decide +kernel
theorem dX11_end_0 : decode cX11_end 0 = .ok (.aload_n 0, 1) := by decide +kernel
theorem dX11_end_1 : decode cX11_end 1 = .ok (.getfield 12, 3) := by decide +kernel
theorem dX11_end_4 : decode cX11_end 4 = .ok (.iload_n 1, 1) := by decide +kernel
theorem dX11_end_5 : decode cX11_end 5 = .ok (.invokevirtual 134, 3) := by decide +kernel
theorem dX11_end_8 : decode cX11_end 8 = .ok (.ireturn, 1) := by decide +kernel
theorem dX11_mark_0 : decode cX11_mark 0 = .ok (.aload_n 0, 1) := by decide +kernel
theorem dX11_mark_1 : decode cX11_mark 1 = .ok (.getfield 33, 3) := by decide +kernel
theorem dX11_mark_4 : decode cX11_mark 4 = .ok (.iload_n 1, 1) := by decide +kernel
theorem dX11_mark_5 : decode cX11_mark 5 = .ok (.invokevirtual 137, 3) := by decide +kernel
theorem dX11_mark_8 : decode cX11_mark 8 = .ok (.ifCond .eq 22, 3) := by decide +kernel
theorem dX11_mark_11 : decode cX11_mark 11 = .ok (.aload_n 0, 1) := by decide +kernel
theorem dX11_mark_12 : decode cX11_mark 12 = .ok (.getfield 40, 3) := by decide +kernel
theorem dX11_mark_15 : decode cX11_mark 15 = .ok (.iload_n 1, 1) := by decide +kernel
theorem dX11_mark_16 : decode cX11_mark 16 = .ok (.aload_n 0, 1) := by decide +kernel
theorem dX11_mark_17 : decode cX11_mark 17 = .ok (.getfield 98, 3) := by decide +kernel
theorem dX11_mark_20 : decode cX11_mark 20 = .ok (.aload_n 0, 1) := by decide +kernel
theorem dX11_mark_21 : decode cX11_mark 21 = .ok (.getfield 12, 3) := by decide +kernel
theorem dX11_mark_24 : decode cX11_mark 24 = .ok (.invokevirtual 140, 3) := by decide +kernel
theorem dX11_mark_27 : decode cX11_mark 27 = .ok (.goto 4, 3) := by decide +kernel
theorem dX11_mark_30 : decode cX11_mark 30 = .ok (.iconst (-1), 1) := by decide +kernel
theorem dX11_mark_31 : decode cX11_mark 31 = .ok (.istore_n 2, 1) := by decide +kernel
theorem dX11_mark_32 : decode cX11_mark 32 = .ok (.aload_n 0, 1) := by decide +kernel
theorem dX11_mark_33 : decode cX11_mark 33 = .ok (.getfield 12, 3) := by decide +kernel
theorem dX11_mark_36 : decode cX11_mark 36 = .ok (.invokevirtual 144, 3) := by decide +kernel
theorem dX11_mark_39 : decode cX11_mark 39 = .ok (.iload_n 2, 1) := by decide +kernel
theorem dX11_mark_40 : decode cX11_mark 40 = .ok (.iconst (-1), 1) := by decide +kernel
theorem dX11_mark_41 : decode cX11_mark 41 = .ok (.if_icmp .eq 19, 3) := by decide +kernel
theorem dX11_mark_44 : decode cX11_mark 44 = .ok (.aload_n 0, 1) := by decide +kernel
theorem dX11_mark_45 : decode cX11_mark 45 = .ok (.getfield 40, 3) := by decide +kernel
theorem dX11_mark_48 : decode cX11_mark 48 = .ok (.aload_n 0, 1) := by decide +kernel
theorem dX11_mark_49 : decode cX11_mark 49 = .ok (.invokevirtual 108, 3) := by decide +kernel
theorem dX11_mark_52 : decode cX11_mark 52 = .ok (.invokevirtual 112, 3) := by decide +kernel
theorem dX11_mark_55 : decode cX11_mark 55 = .ok (.aload_n 0, 1) := by decide +kernel
theorem dX11_mark_56 : decode cX11_mark 56 = .ok (.iconst 1, 1) := by decide +kernel
theorem dX11_mark_57 : decode cX11_mark 57 = .ok (.putfield 104, 3) := by decide +kernel
theorem dX11_mark_60 : decode cX11_mark 60 = .ok (.iload_n 2, 1) := by decide +kernel
theorem dX11_mark_61 : decode cX11_mark 61 = .ok (.ireturn, 1) := by decide +kernel
theorem dX11_custom_0 : decode cX11_custom 0 = .ok (.aload_n 0, 1) := by decide +kernel
theorem dX11_custom_1 : decode cX11_custom 1 = .ok (.iload_n 1, 1) := by decide +kernel
theorem dX11_custom_2 : decode cX11_custom 2 = .ok (.invokevirtual 147, 3) := by decide +kernel
theorem dX11_custom_5 : decode cX11_custom 5 = .ok (.ifCond .ne 12, 3) := by decide +kernel
theorem dX11_custom_8 : decode cX11_custom 8 = .ok (.aload_n 0, 1) := by decide +kernel
theorem dX11_custom_9 : decode cX11_custom 9 = .ok (.getfield 12, 3) := by decide +kernel
theorem dX11_custom_12 : decode cX11_custom 12 = .ok (.invokevirtual 144, 3) := by decide +kernel
theorem dX11_custom_15 : decode cX11_custom 15 = .ok (.iconst (-1), 1) := by decide +kernel
theorem dX11_custom_16 : decode cX11_custom 16 = .ok (.ireturn, 1) := by decide +kernel
theorem dX11_custom_17 : decode cX11_custom 17 = .ok (.aload_n 0, 1) := by decide +kernel
theorem dX11_custom_18 : decode cX11_custom 18 = .ok (.getfield 19, 3) := by decide +kernel
theorem dX11_custom_21 : decode cX11_custom 21 = .ok (.aload_n 0, 1) := by decide +kernel
theorem dX11_custom_22 : decode cX11_custom 22 = .ok (.getfield 12, 3) := by decide +kernel
theorem dX11_custom_25 : decode cX11_custom 25 = .ok (.aload_n 0, 1) := by decide +kernel
theorem dX11_custom_26 : decode cX11_custom 26 = .ok (.getfield 94, 3) := by decide +kernel
theorem dX11_custom_29 : decode cX11_custom 29 = .ok (.invokevirtual 150, 3) := by decide +kernel
theorem dX11_custom_32 : decode cX11_custom 32 = .ok (.istore_n 2, 1) := by decide +kernel
theorem dX11_custom_33 : decode cX11_custom 33 = .ok (.aload_n 0, 1) := by decide +kernel
theorem dX11_custom_34 : decode cX11_custom 34 = .ok (.getfield 12, 3) := by decide +kernel
theorem dX11_custom_37 : decode cX11_custom 37 = .ok (.invokevirtual 144, 3) := by decide +kernel
theorem dX11_custom_40 : decode cX11_custom 40 = .ok (.iload_n 2, 1) := by decide +kernel
theorem dX11_custom_41 : decode cX11_custom 41 = .ok (.iconst (-1), 1) := by decide +kernel
theorem dX11_custom_42 : decode cX11_custom 42 = .ok (.if_icmp .ne 5, 3) := by decide +kernel
theorem dX11_custom_45 : decode cX11_custom 45 = .ok (.iconst (-1), 1) := by decide +kernel
theorem dX11_custom_46 : decode cX11_custom 46 = .ok (.ireturn, 1) := by decide +kernel
theorem dX11_custom_47 : decode cX11_custom 47 = .ok (.aload_n 0, 1) := by decide +kernel
theorem dX11_custom_48 : decode cX11_custom 48 = .ok (.getfield 26, 3) := by decide +kernel
theorem dX11_custom_51 : decode cX11_custom 51 = .ok (.iload_n 1, 1) := by decide +kernel
theorem dX11_custom_52 : decode cX11_custom 52 = .ok (.aaload, 1) := by decide +kernel
theorem dX11_custom_53 : decode cX11_custom 53 = .ok (.astore_n 3, 1) := by decide +kernel
theorem dX11_custom_54 : decode cX11_custom 54 = .ok (.aload_n 0, 1) := by decide +kernel
theorem dX11_custom_55 : decode cX11_custom 55 = .ok (.getfield 26, 3) := by decide +kernel
theorem dX11_custom_58 : decode cX11_custom 58 = .ok (.iload_n 1, 1) := by decide +kernel
theorem dX11_custom_59 : decode cX11_custom 59 = .ok (.aload_n 0, 1) := by decide +kernel
theorem dX11_custom_60 : decode cX11_custom 60 = .ok (.getfield 94, 3) := by decide +kernel
theorem dX11_custom_63 : decode cX11_custom 63 = .ok (.aastore, 1) := by decide +kernel
theorem dX11_custom_64 : decode cX11_custom 64 = .ok (.aload_n 0, 1) := by decide +kernel
theorem dX11_custom_65 : decode cX11_custom 65 = .ok (.aload_n 3, 1) := by decide +kernel
theorem dX11_custom_66 : decode cX11_custom 66 = .ok (.putfield 94, 3) := by decide +kernel
theorem dX11_custom_69 : decode cX11_custom 69 = .ok (.aload_n 0, 1) := by decide +kernel
theorem dX11_custom_70 : decode cX11_custom 70 = .ok (.iconst 1, 1) := by decide +kernel
theorem dX11_custom_71 : decode cX11_custom 71 = .ok (.putfield 104, 3) := by decide +kernel
theorem dX11_custom_74 : decode cX11_custom 74 = .ok (.iload_n 2, 1) := by decide +kernel
theorem dX11_custom_75 : decode cX11_custom 75 = .ok (.ireturn, 1) := by decide +kernel
theorem dX11_fault_0 : decode cX11_fault 0 = .ok (.iload_n 1, 1) := by decide +kernel
theorem dX11_fault_1 : decode cX11_fault 1 = .ok (.ifCond .ne 11, 3) := by decide +kernel
theorem dX11_fault_4 : decode cX11_fault 4 = .ok (.aload_n 0, 1) := by decide +kernel
theorem dX11_fault_5 : decode cX11_fault 5 = .ok (.getfield 19, 3) := by decide +kernel
theorem dX11_fault_8 : decode cX11_fault 8 = .ok (.invokevirtual 154, 3) := by decide +kernel
theorem dX11_fault_11 : decode cX11_fault 11 = .ok (.ireturn, 1) := by decide +kernel
theorem dX11_fault_12 : decode cX11_fault 12 = .ok (.iload_n 1, 1) := by decide +kernel
theorem dX11_fault_13 : decode cX11_fault 13 = .ok (.iconst 1, 1) := by decide +kernel
theorem dX11_fault_14 : decode cX11_fault 14 = .ok (.if_icmp .ne 13, 3) := by decide +kernel
theorem dX11_fault_17 : decode cX11_fault 17 = .ok (.aload_n 0, 1) := by decide +kernel
theorem dX11_fault_18 : decode cX11_fault 18 = .ok (.getfield 19, 3) := by decide +kernel
theorem dX11_fault_21 : decode cX11_fault 21 = .ok (.invokevirtual 157, 3) := by decide +kernel
theorem dX11_fault_24 : decode cX11_fault 24 = .ok (.goto 4, 3) := by decide +kernel
theorem dX11_fault_27 : decode cX11_fault 27 = .ok (.iconst (-1), 1) := by decide +kernel
theorem dX11_fault_28 : decode cX11_fault 28 = .ok (.ireturn, 1) := by decide +kernel
theorem dX11_look_0 : decode cX11_look 0 = .ok (.iload_n 1, 1) := by decide +kernel
theorem dX11_look_1 : decode cX11_look 1 = .ok (.tableswitch 80 0 6 #[43, 48, 53, 58, 63, 68, 74], 43) := by decide +kernel
theorem dX11_look_44 : decode cX11_look 44 = .ok (.aload_n 0, 1) := by decide +kernel
theorem dX11_look_45 : decode cX11_look 45 = .ok (.getfield 98, 3) := by decide +kernel
theorem dX11_look_48 : decode cX11_look 48 = .ok (.ireturn, 1) := by decide +kernel
theorem dX11_look_49 : decode cX11_look 49 = .ok (.aload_n 0, 1) := by decide +kernel
theorem dX11_look_50 : decode cX11_look 50 = .ok (.getfield 101, 3) := by decide +kernel
theorem dX11_look_53 : decode cX11_look 53 = .ok (.ireturn, 1) := by decide +kernel
theorem dX11_look_54 : decode cX11_look 54 = .ok (.aload_n 0, 1) := by decide +kernel
theorem dX11_look_55 : decode cX11_look 55 = .ok (.invokevirtual 160, 3) := by decide +kernel
theorem dX11_look_58 : decode cX11_look 58 = .ok (.ireturn, 1) := by decide +kernel
theorem dX11_look_59 : decode cX11_look 59 = .ok (.aload_n 0, 1) := by decide +kernel
theorem dX11_look_60 : decode cX11_look 60 = .ok (.invokevirtual 163, 3) := by decide +kernel
theorem dX11_look_63 : decode cX11_look 63 = .ok (.ireturn, 1) := by decide +kernel
theorem dX11_look_64 : decode cX11_look 64 = .ok (.aload_n 0, 1) := by decide +kernel
theorem dX11_look_65 : decode cX11_look 65 = .ok (.invokevirtual 166, 3) := by decide +kernel
theorem dX11_look_68 : decode cX11_look 68 = .ok (.ireturn, 1) := by decide +kernel
theorem dX11_look_69 : decode cX11_look 69 = .ok (.aload_n 0, 1) := by decide +kernel
theorem dX11_look_70 : decode cX11_look 70 = .ok (.iconst 1, 1) := by decide +kernel
theorem dX11_look_71 : decode cX11_look 71 = .ok (.invokevirtual 169, 3) := by decide +kernel
theorem dX11_look_74 : decode cX11_look 74 = .ok (.ireturn, 1) := by decide +kernel
theorem dX11_look_75 : decode cX11_look 75 = .ok (.aload_n 0, 1) := by decide +kernel
theorem dX11_look_76 : decode cX11_look 76 = .ok (.iconst 0, 1) := by decide +kernel
theorem dX11_look_77 : decode cX11_look 77 = .ok (.invokevirtual 169, 3) := by decide +kernel
theorem dX11_look_80 : decode cX11_look 80 = .ok (.ireturn, 1) := by decide +kernel
theorem dX11_look_81 : decode cX11_look 81 = .ok (.iconst (-1), 1) := by decide +kernel
theorem dX11_look_82 : decode cX11_look 82 = .ok (.ireturn, 1) := by decide +kernel
theorem dX11_customs_0 : decode cX11_customs 0 = .ok (.aload_n 0, 1) := by decide +kernel
theorem dX11_customs_1 : decode cX11_customs 1 = .ok (.iload_n 1, 1) := by decide +kernel
