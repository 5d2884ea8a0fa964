theorem dX10_both_24 : decode cX10_both 24 = .ok (.iadd, 1) := by decide +kernel
theorem dX10_both_25 : decode cX10_both 25 = .ok (.aload_n 0, 1) := by decide +kernel
theorem dX10_both_26 : decode cX10_both 26 = .ok (.iload_n 2, 1) := by decide +kernel
theorem dX10_both_27 : decode cX10_both 27 = .ok (.invokevirtual 59, 3) := by decide +kernel
theorem dX10_both_30 : decode cX10_both 30 = .ok (.iadd, 1) := by decide +kernel
theorem dX10_both_31 : decode cX10_both 31 = .ok (.istore_n 3, 1) := by decide +kernel
theorem dX10_both_32 : decode cX10_both 32 = .ok (.aload_n 0, 1) := by decide +kernel
theorem dX10_both_33 : decode cX10_both 33 = .ok (.iload_n 3, 1) := by decide +kernel
theorem dX10_both_34 : decode cX10_both 34 = .ok (.invokevirtual 41, 3) := by decide +kernel
theorem dX10_both_37 : decode cX10_both 37 = .ok (.ifCond .eq 8, 3) := by decide +kernel
theorem dX10_both_40 : decode cX10_both 40 = .ok (.bipush (-2), 2) := by decide +kernel
theorem dX10_both_42 : decode cX10_both 42 = .ok (.goto 31, 3) := by decide +kernel
theorem dX10_both_45 : decode cX10_both 45 = .ok (.aload_n 0, 1) := by decide +kernel
theorem dX10_both_46 : decode cX10_both 46 = .ok (.new 63, 3) := by decide +kernel
theorem dX10_both_49 : decode cX10_both 49 = .ok (.dup, 1) := by decide +kernel
theorem dX10_both_50 : decode cX10_both 50 = .ok (.aload_n 0, 1) := by decide +kernel
theorem dX10_both_51 : decode cX10_both 51 = .ok (.getfield 45, 3) := by decide +kernel
theorem dX10_both_54 : decode cX10_both 54 = .ok (.iload_n 3, 1) := by decide +kernel
theorem dX10_both_55 : decode cX10_both 55 = .ok (.aload_n 0, 1) := by decide +kernel
theorem dX10_both_56 : decode cX10_both 56 = .ok (.getfield 18, 3) := by decide +kernel
theorem dX10_both_59 : decode cX10_both 59 = .ok (.iload_n 1, 1) := by decide +kernel
theorem dX10_both_60 : decode cX10_both 60 = .ok (.aaload, 1) := by decide +kernel
theorem dX10_both_61 : decode cX10_both 61 = .ok (.aload_n 0, 1) := by decide +kernel
theorem dX10_both_62 : decode cX10_both 62 = .ok (.getfield 18, 3) := by decide +kernel
theorem dX10_both_65 : decode cX10_both 65 = .ok (.iload_n 2, 1) := by decide +kernel
theorem dX10_both_66 : decode cX10_both 66 = .ok (.aaload, 1) := by decide +kernel
theorem dX10_both_67 : decode cX10_both 67 = .ok (.invokespecial 65, 3) := by decide +kernel
theorem dX10_both_70 : decode cX10_both 70 = .ok (.invokevirtual 52, 3) := by decide +kernel
theorem dX10_both_73 : decode cX10_both 73 = .ok (.ireturn, 1) := by decide +kernel
theorem dX10_choice_0 : decode cX10_choice 0 = .ok (.iload_n 1, 1) := by decide +kernel
theorem dX10_choice_1 : decode cX10_choice 1 = .ok (.invokestatic 68, 3) := by decide +kernel
theorem dX10_choice_4 : decode cX10_choice 4 = .ok (.ifCond .eq 30, 3) := by decide +kernel
theorem dX10_choice_7 : decode cX10_choice 7 = .ok (.iload_n 2, 1) := by decide +kernel
theorem dX10_choice_8 : decode cX10_choice 8 = .ok (.ifCond .lt 26, 3) := by decide +kernel
theorem dX10_choice_11 : decode cX10_choice 11 = .ok (.iload_n 2, 1) := by decide +kernel
theorem dX10_choice_12 : decode cX10_choice 12 = .ok (.bipush 9, 2) := by decide +kernel
theorem dX10_choice_14 : decode cX10_choice 14 = .ok (.if_icmp .gt 20, 3) := by decide +kernel
theorem dX10_choice_17 : decode cX10_choice 17 = .ok (.aload_n 0, 1) := by decide +kernel
theorem dX10_choice_18 : decode cX10_choice 18 = .ok (.iload_n 3, 1) := by decide +kernel
theorem dX10_choice_19 : decode cX10_choice 19 = .ok (.invokevirtual 56, 3) := by decide +kernel
theorem dX10_choice_22 : decode cX10_choice 22 = .ok (.ifCond .eq 12, 3) := by decide +kernel
theorem dX10_choice_25 : decode cX10_choice 25 = .ok (.aload_n 0, 1) := by decide +kernel
theorem dX10_choice_26 : decode cX10_choice 26 = .ok (.iload 4, 2) := by decide +kernel
theorem dX10_choice_28 : decode cX10_choice 28 = .ok (.invokevirtual 56, 3) := by decide +kernel
theorem dX10_choice_31 : decode cX10_choice 31 = .ok (.ifCond .ne 5, 3) := by decide +kernel
theorem dX10_choice_34 : decode cX10_choice 34 = .ok (.iconst (-1), 1) := by decide +kernel
theorem dX10_choice_35 : decode cX10_choice 35 = .ok (.ireturn, 1) := by decide +kernel
theorem dX10_choice_36 : decode cX10_choice 36 = .ok (.iconst 1, 1) := by decide +kernel
theorem dX10_choice_37 : decode cX10_choice 37 = .ok (.aload_n 0, 1) := by decide +kernel
theorem dX10_choice_38 : decode cX10_choice 38 = .ok (.iload_n 3, 1) := by decide +kernel
theorem dX10_choice_39 : decode cX10_choice 39 = .ok (.invokevirtual 59, 3) := by decide +kernel
theorem dX10_choice_42 : decode cX10_choice 42 = .ok (.iadd, 1) := by decide +kernel
theorem dX10_choice_43 : decode cX10_choice 43 = .ok (.aload_n 0, 1) := by decide +kernel
theorem dX10_choice_44 : decode cX10_choice 44 = .ok (.iload 4, 2) := by decide +kernel
theorem dX10_choice_46 : decode cX10_choice 46 = .ok (.invokevirtual 59, 3) := by decide +kernel
theorem dX10_choice_49 : decode cX10_choice 49 = .ok (.iadd, 1) := by decide +kernel
theorem dX10_choice_50 : decode cX10_choice 50 = .ok (.istore 5, 2) := by decide +kernel
theorem dX10_choice_52 : decode cX10_choice 52 = .ok (.aload_n 0, 1) := by decide +kernel
theorem dX10_choice_53 : decode cX10_choice 53 = .ok (.iload 5, 2) := by decide +kernel
theorem dX10_choice_55 : decode cX10_choice 55 = .ok (.invokevirtual 41, 3) := by decide +kernel
theorem dX10_choice_58 : decode cX10_choice 58 = .ok (.ifCond .eq 8, 3) := by decide +kernel
theorem dX10_choice_61 : decode cX10_choice 61 = .ok (.bipush (-2), 2) := by decide +kernel
theorem dX10_choice_63 : decode cX10_choice 63 = .ok (.goto 35, 3) := by decide +kernel
theorem dX10_choice_66 : decode cX10_choice 66 = .ok (.aload_n 0, 1) := by decide +kernel
theorem dX10_choice_67 : decode cX10_choice 67 = .ok (.new 71, 3) := by decide +kernel
theorem dX10_choice_70 : decode cX10_choice 70 = .ok (.dup, 1) := by decide +kernel
theorem dX10_choice_71 : decode cX10_choice 71 = .ok (.aload_n 0, 1) := by decide +kernel
theorem dX10_choice_72 : decode cX10_choice 72 = .ok (.getfield 45, 3) := by decide +kernel
theorem dX10_choice_75 : decode cX10_choice 75 = .ok (.iload 5, 2) := by decide +kernel
theorem dX10_choice_77 : decode cX10_choice 77 = .ok (.iload_n 1, 1) := by decide +kernel
theorem dX10_choice_78 : decode cX10_choice 78 = .ok (.iload_n 2, 1) := by decide +kernel
theorem dX10_choice_79 : decode cX10_choice 79 = .ok (.aload_n 0, 1) := by decide +kernel
theorem dX10_choice_80 : decode cX10_choice 80 = .ok (.getfield 18, 3) := by decide +kernel
theorem dX10_choice_83 : decode cX10_choice 83 = .ok (.iload_n 3, 1) := by decide +kernel
theorem dX10_choice_84 : decode cX10_choice 84 = .ok (.aaload, 1) := by decide +kernel
theorem dX10_choice_85 : decode cX10_choice 85 = .ok (.aload_n 0, 1) := by decide +kernel
theorem dX10_choice_86 : decode cX10_choice 86 = .ok (.getfield 18, 3) := by decide +kernel
theorem dX10_choice_89 : decode cX10_choice 89 = .ok (.iload 4, 2) := by decide +kernel
theorem dX10_choice_91 : decode cX10_choice 91 = .ok (.aaload, 1) := by decide +kernel
theorem dX10_choice_92 : decode cX10_choice 92 = .ok (.invokespecial 73, 3) := by decide +kernel
theorem dX10_choice_95 : decode cX10_choice 95 = .ok (.invokevirtual 52, 3) := by decide +kernel
theorem dX10_choice_98 : decode cX10_choice 98 = .ok (.ireturn, 1) := by decide +kernel
theorem dX10_guard_0 : decode cX10_guard 0 = .ok (.aload_n 0, 1) := by decide +kernel
theorem dX10_guard_1 : decode cX10_guard 1 = .ok (.iload_n 1, 1) := by decide +kernel
theorem dX10_guard_2 : decode cX10_guard 2 = .ok (.invokevirtual 56, 3) := by decide +kernel
theorem dX10_guard_5 : decode cX10_guard 5 = .ok (.ifCond .eq 20, 3) := by decide +kernel
theorem dX10_guard_8 : decode cX10_guard 8 = .ok (.aload_n 0, 1) := by decide +kernel
theorem dX10_guard_9 : decode cX10_guard 9 = .ok (.iload_n 3, 1) := by decide +kernel
theorem dX10_guard_10 : decode cX10_guard 10 = .ok (.invokevirtual 76, 3) := by decide +kernel
theorem dX10_guard_13 : decode cX10_guard 13 = .ok (.ifCond .eq 12, 3) := by decide +kernel
theorem dX10_guard_16 : decode cX10_guard 16 = .ok (.aload_n 0, 1) := by decide +kernel
theorem dX10_guard_17 : decode cX10_guard 17 = .ok (.iload 4, 2) := by decide +kernel
theorem dX10_guard_19 : decode cX10_guard 19 = .ok (.invokevirtual 76, 3) := by decide +kernel
theorem dX10_guard_22 : decode cX10_guard 22 = .ok (.ifCond .ne 5, 3) := by decide +kernel
theorem dX10_guard_25 : decode cX10_guard 25 = .ok (.iconst (-1), 1) := by decide +kernel
theorem dX10_guard_26 : decode cX10_guard 26 = .ok (.ireturn, 1) := by decide +kernel
theorem dX10_guard_27 : decode cX10_guard 27 = .ok (.iconst 1, 1) := by decide +kernel
theorem dX10_guard_28 : decode cX10_guard 28 = .ok (.aload_n 0, 1) := by decide +kernel
theorem dX10_guard_29 : decode cX10_guard 29 = .ok (.iload_n 1, 1) := by decide +kernel
theorem dX10_guard_30 : decode cX10_guard 30 = .ok (.invokevirtual 59, 3) := by decide +kernel
theorem dX10_guard_33 : decode cX10_guard 33 = .ok (.iadd, 1) := by decide +kernel
theorem dX10_guard_34 : decode cX10_guard 34 = .ok (.aload_n 0, 1) := by decide +kernel
theorem dX10_guard_35 : decode cX10_guard 35 = .ok (.iload_n 3, 1) := by decide +kernel
theorem dX10_guard_36 : decode cX10_guard 36 = .ok (.invokevirtual 59, 3) := by decide +kernel
theorem dX10_guard_39 : decode cX10_guard 39 = .ok (.iadd, 1) := by decide +kernel
theorem dX10_guard_40 : decode cX10_guard 40 = .ok (.bipush 9, 2) := by decide +kernel
theorem dX10_guard_42 : decode cX10_guard 42 = .ok (.aload_n 0, 1) := by decide +kernel
theorem dX10_guard_43 : decode cX10_guard 43 = .ok (.iload 4, 2) := by decide +kernel
theorem dX10_guard_45 : decode cX10_guard 45 = .ok (.invokevirtual 59, 3) := by decide +kernel
theorem dX10_guard_48 : decode cX10_guard 48 = .ok (.imul, 1) := by decide +kernel
theorem dX10_guard_49 : decode cX10_guard 49 = .ok (.iadd, 1) := by decide +kernel
theorem dX10_guard_50 : decode cX10_guard 50 = .ok (.istore 5, 2) := by decide +kernel
theorem dX10_guard_52 : decode cX10_guard 52 = .ok (.aload_n 0, 1) := by decide +kernel
theorem dX10_guard_53 : decode cX10_guard 53 = .ok (.iload 5, 2) := by decide +kernel
theorem dX10_guard_55 : decode cX10_guard 55 = .ok (.invokevirtual 41, 3) := by decide +kernel
theorem dX10_guard_58 : decode cX10_guard 58 = .ok (.ifCond .eq 6, 3) := by decide +kernel
theorem dX10_guard_61 : decode cX10_guard 61 = .ok (.bipush (-2), 2) := by decide +kernel
theorem dX10_guard_63 : decode cX10_guard 63 = .ok (.ireturn, 1) := by decide +kernel
theorem dX10_guard_64 : decode cX10_guard 64 = .ok (.aload_n 0, 1) := by decide +kernel
theorem dX10_guard_65 : decode cX10_guard 65 = .ok (.new 79, 3) := by decide +kernel
theorem dX10_guard_68 : decode cX10_guard 68 = .ok (.dup, 1) := by decide +kernel
theorem dX10_guard_69 : decode cX10_guard 69 = .ok (.aload_n 0, 1) := by decide +kernel
theorem dX10_guard_70 : decode cX10_guard 70 = .ok (.getfield 45, 3) := by decide +kernel
theorem dX10_guard_73 : decode cX10_guard 73 = .ok (.iload 5, 2) := by decide +kernel
theorem dX10_guard_75 : decode cX10_guard 75 = .ok (.aload_n 0, 1) := by decide +kernel
theorem dX10_guard_76 : decode cX10_guard 76 = .ok (.getfield 18, 3) := by decide +kernel
theorem dX10_guard_79 : decode cX10_guard 79 = .ok (.iload_n 1, 1) := by decide +kernel
theorem dX10_guard_80 : decode cX10_guard 80 = .ok (.aaload, 1) := by decide +kernel
theorem dX10_guard_81 : decode cX10_guard 81 = .ok (.iload_n 2, 1) := by decide +kernel
theorem dX10_guard_82 : decode cX10_guard 82 = .ok (.sipush 510, 3) := by decide +kernel
theorem dX10_guard_85 : decode cX10_guard 85 = .ok (.iand, 1) := by decide +kernel
theorem dX10_guard_86 : decode cX10_guard 86 = .ok (.aload_n 0, 1) := by decide +kernel
theorem dX10_guard_87 : decode cX10_guard 87 = .ok (.iload_n 3, 1) := by decide +kernel
theorem dX10_guard_88 : decode cX10_guard 88 = .ok (.invokevirtual 81, 3) := by decide +kernel
theorem dX10_guard_91 : decode cX10_guard 91 = .ok (.aload_n 0, 1) := by decide +kernel
theorem dX10_guard_92 : decode cX10_guard 92 = .ok (.iload 4, 2) := by decide +kernel
theorem dX10_guard_94 : decode cX10_guard 94 = .ok (.invokevirtual 81, 3) := by decide +kernel
theorem dX10_guard_97 : decode cX10_guard 97 = .ok (.invokespecial 85, 3) := by decide +kernel
theorem dX10_guard_100 : decode cX10_guard 100 = .ok (.invokevirtual 52, 3) := by decide +kernel
theorem dX10_guard_103 : decode cX10_guard 103 = .ok (.ireturn, 1) := by decide +kernel
theorem dX10_forget_0 : decode cX10_forget 0 = .ok (.aload_n 0, 1) := by decide +kernel
theorem dX10_forget_1 : decode cX10_forget 1 = .ok (.getfield 45, 3) := by decide +kernel
theorem dX10_forget_4 : decode cX10_forget 4 = .ok (.istore_n 1, 1) := by decide +kernel
theorem dX10_forget_5 : decode cX10_forget 5 = .ok (.iconst 0, 1) := by decide +kernel
theorem dX10_forget_6 : decode cX10_forget 6 = .ok (.istore_n 2, 1) := by decide +kernel
theorem dX10_forget_7 : decode cX10_forget 7 = .ok (.iload_n 2, 1) := by decide +kernel
theorem dX10_forget_8 : decode cX10_forget 8 = .ok (.bipush 80, 2) := by decide +kernel
theorem dX10_forget_10 : decode cX10_forget 10 = .ok (.if_icmp .ge 16, 3) := by decide +kernel
theorem dX10_forget_13 : decode cX10_forget 13 = .ok (.aload_n 0, 1) := by decide +kernel
theorem dX10_forget_14 : decode cX10_forget 14 = .ok (.getfield 18, 3) := by decide +kernel
theorem dX10_forget_17 : decode cX10_forget 17 = .ok (.iload_n 2, 1) := by decide +kernel
theorem dX10_forget_18 : decode cX10_forget 18 = .ok (.aconst_null, 1) := by decide +kernel
theorem dX10_forget_19 : decode cX10_forget 19 = .ok (.aastore, 1) := by decide +kernel
theorem dX10_forget_20 : decode cX10_forget 20 = .ok (.iinc 2 1, 3) := by decide +kernel
theorem dX10_forget_23 : decode cX10_forget 23 = .ok (.goto (-16), 3) := by decide +kernel
theorem dX10_forget_26 : decode cX10_forget 26 = .ok (.aload_n 0, 1) := by decide +kernel
theorem dX10_forget_27 : decode cX10_forget 27 = .ok (.iconst 0, 1) := by decide +kernel
theorem dX10_forget_28 : decode cX10_forget 28 = .ok (.putfield 45, 3) := by decide +kernel
theorem dX10_forget_31 : decode cX10_forget 31 = .ok (.iload_n 1, 1) := by decide +kernel
theorem dX10_forget_32 : decode cX10_forget 32 = .ok (.ireturn, 1) := by decide +kernel
theorem dX10_run_0 : decode cX10_run 0 = .ok (.aload_n 0, 1) := by decide +kernel
theorem dX10_run_1 : decode cX10_run 1 = .ok (.iload_n 1, 1) := by decide +kernel
theorem dX10_run_2 : decode cX10_run 2 = .ok (.invokevirtual 56, 3) := by decide +kernel
theorem dX10_run_5 : decode cX10_run 5 = .ok (.ifCond .ne 5, 3) := by decide +kernel
theorem dX10_run_8 : decode cX10_run 8 = .ok (.iconst (-1), 1) := by decide +kernel
theorem dX10_run_9 : decode cX10_run 9 = .ok (.ireturn, 1) := by decide +kernel
theorem dX10_run_10 : decode cX10_run 10 = .ok (.aload_n 0, 1) := by decide +kernel
theorem dX10_run_11 : decode cX10_run 11 = .ok (.getfield 10, 3) := by decide +kernel
theorem dX10_run_14 : decode cX10_run 14 = .ok (.invokevirtual 88, 3) := by decide +kernel
theorem dX10_run_17 : decode cX10_run 17 = .ok (.aload_n 0, 1) := by decide +kernel
theorem dX10_run_18 : decode cX10_run 18 = .ok (.getfield 18, 3) := by decide +kernel
theorem dX10_run_21 : decode cX10_run 21 = .ok (.iload_n 1, 1) := by decide +kernel
theorem dX10_run_22 : decode cX10_run 22 = .ok (.aaload, 1) := by decide +kernel
theorem dX10_run_23 : decode cX10_run 23 = .ok (.aload_n 0, 1) := by decide +kernel
theorem dX10_run_24 : decode cX10_run 24 = .ok (.getfield 10, 3) := by decide +kernel
theorem dX10_run_27 : decode cX10_run 27 = .ok (.invokevirtual 91, 3) := by decide +kernel
theorem dX10_run_30 : decode cX10_run 30 = .ok (.ireturn, 1) := by decide +kernel
theorem dX10_ran_0 : decode cX10_ran 0 = .ok (.iload_n 1, 1) := by decide +kernel
theorem dX10_ran_1 : decode cX10_ran 1 = .ok (.tableswitch 87 0 5 #[39, 47, 55, 63, 71, 79], 39) := by decide +kernel
theorem dX10_ran_40 : decode cX10_ran 40 = .ok (.aload_n 0, 1) := by decide +kernel
theorem dX10_ran_41 : decode cX10_ran 41 = .ok (.getfield 10, 3) := by decide +kernel
theorem dX10_ran_44 : decode cX10_ran 44 = .ok (.getfield 95, 3) := by decide +kernel
theorem dX10_ran_47 : decode cX10_ran 47 = .ok (.ireturn, 1) := by decide +kernel
theorem dX10_ran_48 : decode cX10_ran 48 = .ok (.aload_n 0, 1) := by decide +kernel
theorem dX10_ran_49 : decode cX10_ran 49 = .ok (.getfield 10, 3) := by decide +kernel
theorem dX10_ran_52 : decode cX10_ran 52 = .ok (.getfield 98, 3) := by decide +kernel
theorem dX10_ran_55 : decode cX10_ran 55 = .ok (.ireturn, 1) := by decide +kernel
theorem dX10_ran_56 : decode cX10_ran 56 = .ok (.aload_n 0, 1) := by decide +kernel
theorem dX10_ran_57 : decode cX10_ran 57 = .ok (.getfield 10, 3) := by decide +kernel
theorem dX10_ran_60 : decode cX10_ran 60 = .ok (.getfield 101, 3) := by decide +kernel
theorem dX10_ran_63 : decode cX10_ran 63 = .ok (.ireturn, 1) := by decide +kernel
theorem dX10_ran_64 : decode cX10_ran 64 = .ok (.aload_n 0, 1) := by decide +kernel
theorem dX10_ran_65 : decode cX10_ran 65 = .ok (.getfield 10, 3) := by decide +kernel
theorem dX10_ran_68 : decode cX10_ran 68 = .ok (.getfield 104, 3) := by decide +kernel
theorem dX10_ran_71 : decode cX10_ran 71 = .ok (.ireturn, 1) := by decide +kernel
theorem dX10_ran_72 : decode cX10_ran 72 = .ok (.aload_n 0, 1) := by decide +kernel
theorem dX10_ran_73 : decode cX10_ran 73 = .ok (.getfield 10, 3) := by decide +kernel
theorem dX10_ran_76 : decode cX10_ran 76 = .ok (.getfield 107, 3) := by decide +kernel
theorem dX10_ran_79 : decode cX10_ran 79 = .ok (.ireturn, 1) := by decide +kernel
theorem dX10_ran_80 : decode cX10_ran 80 = .ok (.aload_n 0, 1) := by decide +kernel
theorem dX10_ran_81 : decode cX10_ran 81 = .ok (.getfield 10, 3) := by decide +kernel
theorem dX10_ran_84 : decode cX10_ran 84 = .ok (.getfield 110, 3) := by decide +kernel
theorem dX10_ran_87 : decode cX10_ran 87 = .ok (.ireturn, 1) := by decide +kernel
theorem dX10_ran_88 : decode cX10_ran 88 = .ok (.iconst (-1), 1) := by decide +kernel
theorem dX10_ran_89 : decode cX10_ran 89 = .ok (.ireturn, 1) := by decide +kernel
theorem dX10_clear_0 : decode cX10_clear 0 = .ok (.aload_n 0, 1) := by decide +kernel
theorem dX10_clear_1 : decode cX10_clear 1 = .ok (.getfield 10, 3) := by decide +kernel
theorem dX10_clear_4 : decode cX10_clear 4 = .ok (.invokevirtual 113, 3) := by decide +kernel
theorem dX10_clear_7 : decode cX10_clear 7 = .ok (.ireturn, 1) := by decide +kernel
theorem dX10_count_0 : decode cX10_count 0 = .ok (.iload_n 1, 1) := by decide +kernel
theorem dX10_count_1 : decode cX10_count 1 = .ok (.tableswitch 69 0 3 #[31, 42, 53, 58], 31) := by decide +kernel
theorem dX10_count_32 : decode cX10_count 32 = .ok (.aload_n 0, 1) := by decide +kernel
theorem dX10_count_33 : decode cX10_count 33 = .ok (.getfield 10, 3) := by decide +kernel
theorem dX10_count_36 : decode cX10_count 36 = .ok (.getfield 117, 3) := by decide +kernel
theorem dX10_count_39 : decode cX10_count 39 = .ok (.getfield 121, 3) := by decide +kernel
theorem dX10_count_42 : decode cX10_count 42 = .ok (.ireturn, 1) := by decide +kernel
theorem dX10_count_43 : decode cX10_count 43 = .ok (.aload_n 0, 1) := by decide +kernel
theorem dX10_count_44 : decode cX10_count 44 = .ok (.getfield 10, 3) := by decide +kernel
theorem dX10_count_47 : decode cX10_count 47 = .ok (.getfield 117, 3) := by decide +kernel
theorem dX10_count_50 : decode cX10_count 50 = .ok (.getfield 126, 3) := by decide +kernel
theorem dX10_count_53 : decode cX10_count 53 = .ok (.ireturn, 1) := by decide +kernel
theorem dX10_count_54 : decode cX10_count 54 = .ok (.aload_n 0, 1) := by decide +kernel
theorem dX10_count_55 : decode cX10_count 55 = .ok (.getfield 45, 3) := by decide +kernel
theorem dX10_count_58 : decode cX10_count 58 = .ok (.ireturn, 1) := by decide +kernel
theorem dX10_count_59 : decode cX10_count 59 = .ok (.aload_n 0, 1) := by decide +kernel
theorem dX10_count_60 : decode cX10_count 60 = .ok (.aload_n 0, 1) := by decide +kernel
theorem dX10_count_61 : decode cX10_count 61 = .ok (.getfield 45, 3) := by decide +kernel
theorem dX10_count_64 : decode cX10_count 64 = .ok (.iconst 1, 1) := by decide +kernel
theorem dX10_count_65 : decode cX10_count 65 = .ok (.isub, 1) := by decide +kernel
theorem dX10_count_66 : decode cX10_count 66 = .ok (.invokevirtual 59, 3) := by decide +kernel
theorem dX10_count_69 : decode cX10_count 69 = .ok (.ireturn, 1) := by decide +kernel
theorem dX10_count_70 : decode cX10_count 70 = .ok (.iconst (-1), 1) := by decide +kernel
theorem dX10_count_71 : decode cX10_count 71 = .ok (.ireturn, 1) := by decide +kernel
theorem dX10_slot_0 : decode cX10_slot 0 = .ok (.iload_n 1, 1) := by decide +kernel
theorem dX10_slot_1 : decode cX10_slot 1 = .ok (.invokestatic 68, 3) := by decide +kernel
theorem dX10_slot_4 : decode cX10_slot 4 = .ok (.ifCond .ne 5, 3) := by decide +kernel
theorem dX10_slot_7 : decode cX10_slot 7 = .ok (.iconst (-1), 1) := by decide +kernel
theorem dX10_slot_8 : decode cX10_slot 8 = .ok (.ireturn, 1) := by decide +kernel
theorem dX10_slot_9 : decode cX10_slot 9 = .ok (.aload_n 0, 1) := by decide +kernel
theorem dX10_slot_10 : decode cX10_slot 10 = .ok (.getfield 10, 3) := by decide +kernel
theorem dX10_slot_13 : decode cX10_slot 13 = .ok (.getfield 129, 3) := by decide +kernel
theorem dX10_slot_16 : decode cX10_slot 16 = .ok (.iload_n 1, 1) := by decide +kernel
theorem dX10_slot_17 : decode cX10_slot 17 = .ok (.iaload, 1) := by decide +kernel
theorem dX10_slot_18 : decode cX10_slot 18 = .ok (.istore_n 3, 1) := by decide +kernel
theorem dX10_slot_19 : decode cX10_slot 19 = .ok (.iload_n 2, 1) := by decide +kernel
theorem dX10_slot_20 : decode cX10_slot 20 = .ok (.tableswitch 54 0 2 #[28, 30, 42], 28) := by decide +kernel
theorem dX10_slot_48 : decode cX10_slot 48 = .ok (.iload_n 3, 1) := by decide +kernel
theorem dX10_slot_49 : decode cX10_slot 49 = .ok (.ireturn, 1) := by decide +kernel
theorem dX10_slot_50 : decode cX10_slot 50 = .ok (.aload_n 0, 1) := by decide +kernel
theorem dX10_slot_51 : decode cX10_slot 51 = .ok (.getfield 10, 3) := by decide +kernel
theorem dX10_slot_54 : decode cX10_slot 54 = .ok (.getfield 117, 3) := by decide +kernel
theorem dX10_slot_57 : decode cX10_slot 57 = .ok (.iload_n 3, 1) := by decide +kernel
theorem dX10_slot_58 : decode cX10_slot 58 = .ok (.invokevirtual 133, 3) := by decide +kernel
theorem dX10_slot_61 : decode cX10_slot 61 = .ok (.ireturn, 1) := by decide +kernel
theorem dX10_slot_62 : decode cX10_slot 62 = .ok (.aload_n 0, 1) := by decide +kernel
theorem dX10_slot_63 : decode cX10_slot 63 = .ok (.getfield 10, 3) := by decide +kernel
theorem dX10_slot_66 : decode cX10_slot 66 = .ok (.getfield 117, 3) := by decide +kernel
theorem dX10_slot_69 : decode cX10_slot 69 = .ok (.iload_n 3, 1) := by decide +kernel
theorem dX10_slot_70 : decode cX10_slot 70 = .ok (.invokevirtual 136, 3) := by decide +kernel
theorem dX10_slot_73 : decode cX10_slot 73 = .ok (.ireturn, 1) := by decide +kernel
theorem dX10_slot_74 : decode cX10_slot 74 = .ok (.iconst (-1), 1) := by decide +kernel
theorem dX10_slot_75 : decode cX10_slot 75 = .ok (.ireturn, 1) := by decide +kernel
theorem dX10_item_0 : decode cX10_item 0 = .ok (.iload_n 1, 1) := by decide +kernel
theorem dX10_item_1 : decode cX10_item 1 = .ok (.invokestatic 68, 3) := by decide +kernel
theorem dX10_item_4 : decode cX10_item 4 = .ok (.ifCond .eq 26, 3) := by decide +kernel
theorem dX10_item_7 : decode cX10_item 7 = .ok (.aload_n 0, 1) := by decide +kernel
theorem dX10_item_8 : decode cX10_item 8 = .ok (.getfield 10, 3) := by decide +kernel
theorem dX10_item_11 : decode cX10_item 11 = .ok (.getfield 117, 3) := by decide +kernel
theorem dX10_item_14 : decode cX10_item 14 = .ok (.aload_n 0, 1) := by decide +kernel
theorem dX10_item_15 : decode cX10_item 15 = .ok (.getfield 10, 3) := by decide +kernel
theorem dX10_item_18 : decode cX10_item 18 = .ok (.getfield 129, 3) := by decide +kernel
theorem dX10_item_21 : decode cX10_item 21 = .ok (.iload_n 1, 1) := by decide +kernel
theorem dX10_item_22 : decode cX10_item 22 = .ok (.iaload, 1) := by decide +kernel
theorem dX10_item_23 : decode cX10_item 23 = .ok (.iload_n 2, 1) := by decide +kernel
theorem dX10_item_24 : decode cX10_item 24 = .ok (.invokevirtual 139, 3) := by decide +kernel
theorem dX10_item_27 : decode cX10_item 27 = .ok (.goto 4, 3) := by decide +kernel
theorem dX10_item_30 : decode cX10_item 30 = .ok (.lconst 0, 1) := by decide +kernel
theorem dX10_item_31 : decode cX10_item 31 = .ok (.lreturn, 1) := by decide +kernel
theorem dX10_register_0 : decode cX10_register 0 = .ok (.iload_n 1, 1) := by decide +kernel
theorem dX10_register_1 : decode cX10_register 1 = .ok (.ifCond .lt 21, 3) := by decide +kernel
theorem dX10_register_4 : decode cX10_register 4 = .ok (.iload_n 1, 1) := by decide +kernel
theorem dX10_register_5 : decode cX10_register 5 = .ok (.bipush 8, 2) := by decide +kernel
theorem dX10_register_7 : decode cX10_register 7 = .ok (.if_icmp .ge 15, 3) := by decide +kernel
theorem dX10_register_10 : decode cX10_register 10 = .ok (.aload_n 0, 1) := by decide +kernel
theorem dX10_register_11 : decode cX10_register 11 = .ok (.getfield 10, 3) := by decide +kernel
theorem dX10_register_14 : decode cX10_register 14 = .ok (.getfield 143, 3) := by decide +kernel
theorem dX10_register_17 : decode cX10_register 17 = .ok (.iload_n 1, 1) := by decide +kernel
theorem dX10_register_18 : decode cX10_register 18 = .ok (.laload, 1) := by decide +kernel
theorem dX10_register_19 : decode cX10_register 19 = .ok (.goto 4, 3) := by decide +kernel
theorem dX10_register_22 : decode cX10_register 22 = .ok (.lconst 0, 1) := by decide +kernel
theorem dX10_register_23 : decode cX10_register 23 = .ok (.lreturn, 1) := by decide +kernel
theorem dX10_alike_0 : decode cX10_alike 0 = .ok (.iload_n 1, 1) := by decide +kernel
theorem dX10_alike_1 : decode cX10_alike 1 = .ok (.invokestatic 68, 3) := by decide +kernel
theorem dX10_alike_4 : decode cX10_alike 4 = .ok (.ifCond .eq 10, 3) := by decide +kernel
theorem dX10_alike_7 : decode cX10_alike 7 = .ok (.iload_n 2, 1) := by decide +kernel
theorem dX10_alike_8 : decode cX10_alike 8 = .ok (.invokestatic 68, 3) := by decide +kernel
theorem dX10_alike_11 : decode cX10_alike 11 = .ok (.ifCond .ne 5, 3) := by decide +kernel
theorem dX10_alike_14 : decode cX10_alike 14 = .ok (.iconst (-1), 1) := by decide +kernel
theorem dX10_alike_15 : decode cX10_alike 15 = .ok (.ireturn, 1) := by decide +kernel
theorem dX10_alike_16 : decode cX10_alike 16 = .ok (.aload_n 0, 1) := by decide +kernel
theorem dX10_alike_17 : decode cX10_alike 17 = .ok (.getfield 10, 3) := by decide +kernel
theorem dX10_alike_20 : decode cX10_alike 20 = .ok (.getfield 129, 3) := by decide +kernel
theorem dX10_alike_23 : decode cX10_alike 23 = .ok (.iload_n 1, 1) := by decide +kernel
theorem dX10_alike_24 : decode cX10_alike 24 = .ok (.iaload, 1) := by decide +kernel
theorem dX10_alike_25 : decode cX10_alike 25 = .ok (.istore_n 3, 1) := by decide +kernel
theorem dX10_alike_26 : decode cX10_alike 26 = .ok (.aload_n 0, 1) := by decide +kernel
theorem dX10_alike_27 : decode cX10_alike 27 = .ok (.getfield 10, 3) := by decide +kernel
theorem dX10_alike_30 : decode cX10_alike 30 = .ok (.getfield 129, 3) := by decide +kernel
theorem dX10_alike_33 : decode cX10_alike 33 = .ok (.iload_n 2, 1) := by decide +kernel
theorem dX10_alike_34 : decode cX10_alike 34 = .ok (.iaload, 1) := by decide +kernel
theorem dX10_alike_35 : decode cX10_alike 35 = .ok (.istore 4, 2) := by decide +kernel
theorem dX10_alike_37 : decode cX10_alike 37 = .ok (.iload_n 3, 1) := by decide +kernel
theorem dX10_alike_38 : decode cX10_alike 38 = .ok (.iload 4, 2) := by decide +kernel
theorem dX10_alike_40 : decode cX10_alike 40 = .ok (.if_icmp .ne 5, 3) := by decide +kernel
theorem dX10_alike_43 : decode cX10_alike 43 = .ok (.iconst 1, 1) := by decide +kernel
theorem dX10_alike_44 : decode cX10_alike 44 = .ok (.ireturn, 1) := by decide +kernel
theorem dX10_alike_45 : decode cX10_alike 45 = .ok (.aload_n 0, 1) := by decide +kernel
theorem dX10_alike_46 : decode cX10_alike 46 = .ok (.getfield 10, 3) := by decide +kernel
theorem dX10_alike_49 : decode cX10_alike 49 = .ok (.getfield 117, 3) := by decide +kernel
theorem dX10_alike_52 : decode cX10_alike 52 = .ok (.iload_n 3, 1) := by decide +kernel
theorem dX10_alike_53 : decode cX10_alike 53 = .ok (.iload 4, 2) := by decide +kernel
theorem dX10_alike_55 : decode cX10_alike 55 = .ok (.invokevirtual 147, 3) := by decide +kernel
theorem dX10_alike_58 : decode cX10_alike 58 = .ok (.ifCond .eq 7, 3) := by decide +kernel
theorem dX10_alike_61 : decode cX10_alike 61 = .ok (.iconst 2, 1) := by decide +kernel
theorem dX10_alike_62 : decode cX10_alike 62 = .ok (.goto 4, 3) := by decide +kernel
theorem dX10_alike_65 : decode cX10_alike 65 = .ok (.iconst 0, 1) := by decide +kernel
theorem dX10_alike_66 : decode cX10_alike 66 = .ok (.ireturn, 1) := by decide +kernel
theorem dX10_given_0 : decode cX10_given 0 = .ok (.iload_n 1, 1) := by decide +kernel
theorem dX10_given_1 : decode cX10_given 1 = .ok (.invokestatic 68, 3) := by decide +kernel
theorem dX10_given_4 : decode cX10_given 4 = .ok (.ifCond .eq 14, 3) := by decide +kernel
theorem dX10_given_7 : decode cX10_given 7 = .ok (.iload_n 2, 1) := by decide +kernel
theorem dX10_given_8 : decode cX10_given 8 = .ok (.ifCond .le 10, 3) := by decide +kernel
theorem dX10_given_11 : decode cX10_given 11 = .ok (.iload_n 2, 1) := by decide +kernel
theorem dX10_given_12 : decode cX10_given 12 = .ok (.sipush 1023, 3) := by decide +kernel
theorem dX10_given_15 : decode cX10_given 15 = .ok (.if_icmp .le 5, 3) := by decide +kernel
theorem dX10_given_18 : decode cX10_given 18 = .ok (.iconst (-1), 1) := by decide +kernel
theorem dX10_given_19 : decode cX10_given 19 = .ok (.ireturn, 1) := by decide +kernel
theorem dX10_given_20 : decode cX10_given 20 = .ok (.aload_n 0, 1) := by decide +kernel
theorem dX10_given_21 : decode cX10_given 21 = .ok (.getfield 25, 3) := by decide +kernel
theorem dX10_given_24 : decode cX10_given 24 = .ok (.iload_n 1, 1) := by decide +kernel
theorem dX10_given_25 : decode cX10_given 25 = .ok (.invokevirtual 151, 3) := by decide +kernel
theorem dX10_given_28 : decode cX10_given 28 = .ok (.istore_n 3, 1) := by decide +kernel
theorem dX10_given_29 : decode cX10_given 29 = .ok (.aload_n 0, 1) := by decide +kernel
theorem dX10_given_30 : decode cX10_given 30 = .ok (.getfield 25, 3) := by decide +kernel
theorem dX10_given_33 : decode cX10_given 33 = .ok (.iload_n 1, 1) := by decide +kernel
theorem dX10_given_34 : decode cX10_given 34 = .ok (.iload_n 2, 1) := by decide +kernel
theorem dX10_given_35 : decode cX10_given 35 = .ok (.invokevirtual 31, 3) := by decide +kernel
theorem dX10_given_38 : decode cX10_given 38 = .ok (.iload_n 3, 1) := by decide +kernel
theorem dX10_given_39 : decode cX10_given 39 = .ok (.ireturn, 1) := by decide +kernel
theorem dX10_report_0 : decode cX10_report 0 = .ok (.aload_n 0, 1) := by decide +kernel
theorem dX10_report_1 : decode cX10_report 1 = .ok (.iload_n 1, 1) := by decide +kernel
theorem dX10_report_2 : decode cX10_report 2 = .ok (.invokevirtual 56, 3) := by decide +kernel
theorem dX10_report_5 : decode cX10_report 5 = .ok (.ifCond .ne 5, 3) := by decide +kernel
theorem dX10_report_8 : decode cX10_report 8 = .ok (.iconst (-1), 1) := by decide +kernel
theorem dX10_report_9 : decode cX10_report 9 = .ok (.ireturn, 1) := by decide +kernel
theorem dX10_report_10 : decode cX10_report 10 = .ok (.iconst 0, 1) := by decide +kernel
theorem dX10_report_11 : decode cX10_report 11 = .ok (.istore_n 2, 1) := by decide +kernel
theorem dX10_report_12 : decode cX10_report 12 = .ok (.iload_n 2, 1) := by decide +kernel
theorem dX10_report_13 : decode cX10_report 13 = .ok (.aload_n 0, 1) := by decide +kernel
theorem dX10_report_14 : decode cX10_report 14 = .ok (.getfield 45, 3) := by decide +kernel
theorem dX10_report_17 : decode cX10_report 17 = .ok (.if_icmp .ge 18, 3) := by decide +kernel
theorem dX10_report_20 : decode cX10_report 20 = .ok (.aload_n 0, 1) := by decide +kernel
theorem dX10_report_21 : decode cX10_report 21 = .ok (.getfield 18, 3) := by decide +kernel
theorem dX10_report_24 : decode cX10_report 24 = .ok (.iload_n 2, 1) := by decide +kernel
theorem dX10_report_25 : decode cX10_report 25 = .ok (.aaload, 1) := by decide +kernel
theorem dX10_report_26 : decode cX10_report 26 = .ok (.invokevirtual 154, 3) := by decide +kernel
theorem dX10_report_29 : decode cX10_report 29 = .ok (.iinc 2 1, 3) := by decide +kernel
theorem dX10_report_32 : decode cX10_report 32 = .ok (.goto (-20), 3) := by decide +kernel
theorem dX10_report_35 : decode cX10_report 35 = .ok (.aload_n 0, 1) := by decide +kernel
theorem dX10_report_36 : decode cX10_report 36 = .ok (.getfield 18, 3) := by decide +kernel
theorem dX10_report_39 : decode cX10_report 39 = .ok (.iload_n 1, 1) := by decide +kernel
theorem dX10_report_40 : decode cX10_report 40 = .ok (.aaload, 1) := by decide +kernel
theorem dX10_report_41 : decode cX10_report 41 = .ok (.aload_n 0, 1) := by decide +kernel
theorem dX10_report_42 : decode cX10_report 42 = .ok (.getfield 25, 3) := by decide +kernel
theorem dX10_report_45 : decode cX10_report 45 = .ok (.invokevirtual 157, 3) := by decide +kernel
theorem dX10_report_48 : decode cX10_report 48 = .ok (.aload_n 0, 1) := by decide +kernel
theorem dX10_report_49 : decode cX10_report 49 = .ok (.getfield 18, 3) := by decide +kernel
theorem dX10_report_52 : decode cX10_report 52 = .ok (.iload_n 1, 1) := by decide +kernel
theorem dX10_report_53 : decode cX10_report 53 = .ok (.aaload, 1) := by decide +kernel
theorem dX10_report_54 : decode cX10_report 54 = .ok (.getfield 161, 3) := by decide +kernel
theorem dX10_report_57 : decode cX10_report 57 = .ok (.ireturn, 1) := by decide +kernel
theorem dX10_reached_0 : decode cX10_reached 0 = .ok (.aload_n 0, 1) := by decide +kernel
theorem dX10_reached_1 : decode cX10_reached 1 = .ok (.iload_n 1, 1) := by decide +kernel
theorem dX10_reached_2 : decode cX10_reached 2 = .ok (.invokevirtual 56, 3) := by decide +kernel
theorem dX10_reached_5 : decode cX10_reached 5 = .ok (.ifCond .ne 5, 3) := by decide +kernel
theorem dX10_reached_8 : decode cX10_reached 8 = .ok (.iconst (-1), 1) := by decide +kernel
theorem dX10_reached_9 : decode cX10_reached 9 = .ok (.ireturn, 1) := by decide +kernel
theorem dX10_reached_10 : decode cX10_reached 10 = .ok (.aload_n 0, 1) := by decide +kernel
theorem dX10_reached_11 : decode cX10_reached 11 = .ok (.getfield 18, 3) := by decide +kernel
theorem dX10_reached_14 : decode cX10_reached 14 = .ok (.iload_n 1, 1) := by decide +kernel
theorem dX10_reached_15 : decode cX10_reached 15 = .ok (.aaload, 1) := by decide +kernel
theorem dX10_reached_16 : decode cX10_reached 16 = .ok (.invokevirtual 164, 3) := by decide +kernel
theorem dX10_reached_19 : decode cX10_reached 19 = .ok (.ifCond .eq 7, 3) := by decide +kernel
theorem dX10_reached_22 : decode cX10_reached 22 = .ok (.iconst 1, 1) := by decide +kernel
theorem dX10_reached_23 : decode cX10_reached 23 = .ok (.goto 4, 3) := by decide +kernel
theorem dX10_reached_26 : decode cX10_reached 26 = .ok (.iconst 0, 1) := by decide +kernel
theorem dX10_reached_27 : decode cX10_reached 27 = .ok (.ireturn, 1) := by decide +kernel
theorem dX10_may_0 : decode cX10_may 0 = .ok (.aload_n 0, 1) := by decide +kernel
theorem dX10_may_1 : decode cX10_may 1 = .ok (.iload_n 1, 1) := by decide +kernel
theorem dX10_may_2 : decode cX10_may 2 = .ok (.invokevirtual 56, 3) := by decide +kernel
theorem dX10_may_5 : decode cX10_may 5 = .ok (.ifCond .eq 15, 3) := by decide +kernel
theorem dX10_may_8 : decode cX10_may 8 = .ok (.aload_n 0, 1) := by decide +kernel
theorem dX10_may_9 : decode cX10_may 9 = .ok (.getfield 18, 3) := by decide +kernel
theorem dX10_may_12 : decode cX10_may 12 = .ok (.iload_n 1, 1) := by decide +kernel
theorem dX10_may_13 : decode cX10_may 13 = .ok (.aaload, 1) := by decide +kernel
theorem dX10_may_14 : decode cX10_may 14 = .ok (.getfield 161, 3) := by decide +kernel
theorem dX10_may_17 : decode cX10_may 17 = .ok (.goto 4, 3) := by decide +kernel
theorem dX10_may_20 : decode cX10_may 20 = .ok (.iconst (-1), 1) := by decide +kernel
theorem dX10_may_21 : decode cX10_may 21 = .ok (.ireturn, 1) := by decide +kernel
theorem dX10_ahead_0 : decode cX10_ahead 0 = .ok (.aload_n 0, 1) := by decide +kernel
theorem dX10_ahead_1 : decode cX10_ahead 1 = .ok (.iload_n 1, 1) := by decide +kernel
theorem dX10_ahead_2 : decode cX10_ahead 2 = .ok (.invokevirtual 56, 3) := by decide +kernel
theorem dX10_ahead_5 : decode cX10_ahead 5 = .ok (.ifCond .eq 26, 3) := by decide +kernel
theorem dX10_ahead_8 : decode cX10_ahead 8 = .ok (.iload_n 2, 1) := by decide +kernel
theorem dX10_ahead_9 : decode cX10_ahead 9 = .ok (.invokestatic 68, 3) := by decide +kernel
theorem dX10_ahead_12 : decode cX10_ahead 12 = .ok (.ifCond .eq 19, 3) := by decide +kernel
theorem dX10_ahead_15 : decode cX10_ahead 15 = .ok (.aload_n 0, 1) := by decide +kernel
theorem dX10_ahead_16 : decode cX10_ahead 16 = .ok (.getfield 18, 3) := by decide +kernel
theorem dX10_ahead_19 : decode cX10_ahead 19 = .ok (.iload_n 1, 1) := by decide +kernel
theorem dX10_ahead_20 : decode cX10_ahead 20 = .ok (.aaload, 1) := by decide +kernel
theorem dX10_ahead_21 : decode cX10_ahead 21 = .ok (.getfield 168, 3) := by decide +kernel
theorem dX10_ahead_24 : decode cX10_ahead 24 = .ok (.iload_n 2, 1) := by decide +kernel
theorem dX10_ahead_25 : decode cX10_ahead 25 = .ok (.invokevirtual 151, 3) := by decide +kernel
theorem dX10_ahead_28 : decode cX10_ahead 28 = .ok (.goto 4, 3) := by decide +kernel
theorem dX10_ahead_31 : decode cX10_ahead 31 = .ok (.iconst (-1), 1) := by decide +kernel
theorem dX10_ahead_32 : decode cX10_ahead 32 = .ok (.ireturn, 1) := by decide +kernel
theorem dX10_guarded_0 : decode cX10_guarded 0 = .ok (.aload_n 0, 1) := by decide +kernel
theorem dX10_guarded_1 : decode cX10_guarded 1 = .ok (.iload_n 1, 1) := by decide +kernel
theorem dX10_guarded_2 : decode cX10_guarded 2 = .ok (.invokevirtual 56, 3) := by decide +kernel
theorem dX10_guarded_5 : decode cX10_guarded 5 = .ok (.ifCond .eq 12, 3) := by decide +kernel
theorem dX10_guarded_8 : decode cX10_guarded 8 = .ok (.iload_n 2, 1) := by decide +kernel
theorem dX10_guarded_9 : decode cX10_guarded 9 = .ok (.ifCond .lt 8, 3) := by decide +kernel
theorem dX10_guarded_12 : decode cX10_guarded 12 = .ok (.iload_n 2, 1) := by decide +kernel
theorem dX10_guarded_13 : decode cX10_guarded 13 = .ok (.iconst 1, 1) := by decide +kernel
theorem dX10_guarded_14 : decode cX10_guarded 14 = .ok (.if_icmp .le 5, 3) := by decide +kernel
theorem dX10_guarded_17 : decode cX10_guarded 17 = .ok (.iconst (-1), 1) := by decide +kernel
theorem dX10_guarded_18 : decode cX10_guarded 18 = .ok (.ireturn, 1) := by decide +kernel
theorem dX10_guarded_19 : decode cX10_guarded 19 = .ok (.aload_n 0, 1) := by decide +kernel
theorem dX10_guarded_20 : decode cX10_guarded 20 = .ok (.getfield 18, 3) := by decide +kernel
theorem dX10_guarded_23 : decode cX10_guarded 23 = .ok (.iload_n 1, 1) := by decide +kernel
theorem dX10_guarded_24 : decode cX10_guarded 24 = .ok (.aaload, 1) := by decide +kernel
theorem dX10_guarded_25 : decode cX10_guarded 25 = .ok (.astore 4, 2) := by decide +kernel
theorem dX10_guarded_27 : decode cX10_guarded 27 = .ok (.aload 4, 2) := by decide +kernel
theorem dX10_guarded_29 : decode cX10_guarded 29 = .ok (.instanceof 79, 3) := by decide +kernel
theorem dX10_guarded_32 : decode cX10_guarded 32 = .ok (.ifCond .eq 25, 3) := by decide +kernel
theorem dX10_guarded_35 : decode cX10_guarded 35 = .ok (.aload 4, 2) := by decide +kernel
theorem dX10_guarded_37 : decode cX10_guarded 37 = .ok (.checkcast 79, 3) := by decide +kernel
theorem dX10_guarded_40 : decode cX10_guarded 40 = .ok (.astore_n 3, 1) := by decide +kernel
theorem dX10_guarded_41 : decode cX10_guarded 41 = .ok (.iload_n 2, 1) := by decide +kernel
theorem dX10_guarded_42 : decode cX10_guarded 42 = .ok (.ifCond .ne 10, 3) := by decide +kernel
theorem dX10_guarded_45 : decode cX10_guarded 45 = .ok (.aload_n 3, 1) := by decide +kernel
theorem dX10_guarded_46 : decode cX10_guarded 46 = .ok (.invokevirtual 171, 3) := by decide +kernel
theorem dX10_guarded_49 : decode cX10_guarded 49 = .ok (.goto 7, 3) := by decide +kernel
theorem dX10_guarded_52 : decode cX10_guarded 52 = .ok (.aload_n 3, 1) := by decide +kernel
theorem dX10_guarded_53 : decode cX10_guarded 53 = .ok (.getfield 174, 3) := by decide +kernel
theorem dX10_guarded_56 : decode cX10_guarded 56 = .ok (.ireturn, 1) := by decide +kernel
theorem dX10_guarded_57 : decode cX10_guarded 57 = .ok (.iconst (-1), 1) := by decide +kernel
theorem dX10_guarded_58 : decode cX10_guarded 58 = .ok (.ireturn, 1) := by decide +kernel
theorem dX10_isSlot_0 : decode cX10_isSlot 0 = .ok (.iload_n 0, 1) := by decide +kernel
theorem dX10_isSlot_1 : decode cX10_isSlot 1 = .ok (.ifCond .lt 13, 3) := by decide +kernel
theorem dX10_isSlot_4 : decode cX10_isSlot 4 = .ok (.iload_n 0, 1) := by decide +kernel
theorem dX10_isSlot_5 : decode cX10_isSlot 5 = .ok (.bipush 12, 2) := by decide +kernel
theorem dX10_isSlot_7 : decode cX10_isSlot 7 = .ok (.if_icmp .ge 7, 3) := by decide +kernel
theorem dX10_isSlot_10 : decode cX10_isSlot 10 = .ok (.iconst 1, 1) := by decide +kernel
theorem dX10_isSlot_11 : decode cX10_isSlot 11 = .ok (.goto 4, 3) := by decide +kernel
theorem dX10_isSlot_14 : decode cX10_isSlot 14 = .ok (.iconst 0, 1) := by decide +kernel
theorem dX10_isSlot_15 : decode cX10_isSlot 15 = .ok (.ireturn, 1) := by decide +kernel
theorem dX10_isNode_0 : decode cX10_isNode 0 = .ok (.iload_n 1, 1) := by decide +kernel
theorem dX10_isNode_1 : decode cX10_isNode 1 = .ok (.ifCond .lt 15, 3) := by decide +kernel
theorem dX10_isNode_4 : decode cX10_isNode 4 = .ok (.iload_n 1, 1) := by decide +kernel
theorem dX10_isNode_5 : decode cX10_isNode 5 = .ok (.aload_n 0, 1) := by decide +kernel
theorem dX10_isNode_6 : decode cX10_isNode 6 = .ok (.getfield 45, 3) := by decide +kernel
theorem dX10_isNode_9 : decode cX10_isNode 9 = .ok (.if_icmp .ge 7, 3) := by decide +kernel
theorem dX10_isNode_12 : decode cX10_isNode 12 = .ok (.iconst 1, 1) := by decide +kernel
theorem dX10_isNode_13 : decode cX10_isNode 13 = .ok (.goto 4, 3) := by decide +kernel
theorem dX10_isNode_16 : decode cX10_isNode 16 = .ok (.iconst 0, 1) := by decide +kernel
theorem dX10_isNode_17 : decode cX10_isNode 17 = .ok (.ireturn, 1) := by decide +kernel
theorem dX10_isNodeOrNone_0 : decode cX10_isNodeOrNone 0 = .ok (.iload_n 1, 1) := by decide +kernel
theorem dX10_isNodeOrNone_1 : decode cX10_isNodeOrNone 1 = .ok (.iconst (-1), 1) := by decide +kernel
theorem dX10_isNodeOrNone_2 : decode cX10_isNodeOrNone 2 = .ok (.if_icmp .eq 11, 3) := by decide +kernel
theorem dX10_isNodeOrNone_5 : decode cX10_isNodeOrNone 5 = .ok (.aload_n 0, 1) := by decide +kernel
theorem dX10_isNodeOrNone_6 : decode cX10_isNodeOrNone 6 = .ok (.iload_n 1, 1) := by decide +kernel
theorem dX10_isNodeOrNone_7 : decode cX10_isNodeOrNone 7 = .ok (.invokevirtual 56, 3) := by decide +kernel
theorem dX10_isNodeOrNone_10 : decode cX10_isNodeOrNone 10 = .ok (.ifCond .eq 7, 3) := by decide +kernel
theorem dX10_isNodeOrNone_13 : decode cX10_isNodeOrNone 13 = .ok (.iconst 1, 1) := by decide +kernel
theorem dX10_isNodeOrNone_14 : decode cX10_isNodeOrNone 14 = .ok (.goto 4, 3) := by decide +kernel
theorem dX10_isNodeOrNone_17 : decode cX10_isNodeOrNone 17 = .ok (.iconst 0, 1) := by decide +kernel
theorem dX10_isNodeOrNone_18 : decode cX10_isNodeOrNone 18 = .ok (.ireturn, 1) := by decide +kernel
theorem dX10_nodeOrNull_0 : decode cX10_nodeOrNull 0 = .ok (.aload_n 0, 1) := by decide +kernel
theorem dX10_nodeOrNull_1 : decode cX10_nodeOrNull 1 = .ok (.iload_n 1, 1) := by decide +kernel
theorem dX10_nodeOrNull_2 : decode cX10_nodeOrNull 2 = .ok (.invokevirtual 56, 3) := by decide +kernel
theorem dX10_nodeOrNull_5 : decode cX10_nodeOrNull 5 = .ok (.ifCond .eq 12, 3) := by decide +kernel
theorem dX10_nodeOrNull_8 : decode cX10_nodeOrNull 8 = .ok (.aload_n 0, 1) := by decide +kernel
theorem dX10_nodeOrNull_9 : decode cX10_nodeOrNull 9 = .ok (.getfield 18, 3) := by decide +kernel
theorem dX10_nodeOrNull_12 : decode cX10_nodeOrNull 12 = .ok (.iload_n 1, 1) := by decide +kernel
theorem dX10_nodeOrNull_13 : decode cX10_nodeOrNull 13 = .ok (.aaload, 1) := by decide +kernel
theorem dX10_nodeOrNull_14 : decode cX10_nodeOrNull 14 = .ok (.goto 4, 3) := by decide +kernel
theorem dX10_nodeOrNull_17 : decode cX10_nodeOrNull 17 = .ok (.aconst_null, 1) := by decide +kernel
theorem dX10_nodeOrNull_18 : decode cX10_nodeOrNull 18 = .ok (.areturn, 1) := by decide +kernel
theorem dX10_costOf_0 : decode cX10_costOf 0 = .ok (.aload_n 0, 1) := by decide +kernel
theorem dX10_costOf_1 : decode cX10_costOf 1 = .ok (.iload_n 1, 1) := by decide +kernel
theorem dX10_costOf_2 : decode cX10_costOf 2 = .ok (.invokevirtual 56, 3) := by decide +kernel
theorem dX10_costOf_5 : decode cX10_costOf 5 = .ok (.ifCond .eq 15, 3) := by decide +kernel
theorem dX10_costOf_8 : decode cX10_costOf 8 = .ok (.aload_n 0, 1) := by decide +kernel
theorem dX10_costOf_9 : decode cX10_costOf 9 = .ok (.getfield 18, 3) := by decide +kernel
theorem dX10_costOf_12 : decode cX10_costOf 12 = .ok (.iload_n 1, 1) := by decide +kernel
theorem dX10_costOf_13 : decode cX10_costOf 13 = .ok (.aaload, 1) := by decide +kernel
theorem dX10_costOf_14 : decode cX10_costOf 14 = .ok (.getfield 177, 3) := by decide +kernel
theorem dX10_costOf_17 : decode cX10_costOf 17 = .ok (.goto 4, 3) := by decide +kernel
theorem dX10_costOf_20 : decode cX10_costOf 20 = .ok (.iconst 0, 1) := by decide +kernel
theorem dX10_costOf_21 : decode cX10_costOf 21 = .ok (.ireturn, 1) := by decide +kernel
theorem dX10_isFull_0 : decode cX10_isFull 0 = .ok (.aload_n 0, 1) := by decide +kernel
theorem dX10_isFull_1 : decode cX10_isFull 1 = .ok (.getfield 45, 3) := by decide +kernel
theorem dX10_isFull_4 : decode cX10_isFull 4 = .ok (.bipush 80, 2) := by decide +kernel
theorem dX10_isFull_6 : decode cX10_isFull 6 = .ok (.if_icmp .ge 9, 3) := by decide +kernel
theorem dX10_isFull_9 : decode cX10_isFull 9 = .ok (.iload_n 1, 1) := by decide +kernel
theorem dX10_isFull_10 : decode cX10_isFull 10 = .ok (.bipush 100, 2) := by decide +kernel
theorem dX10_isFull_12 : decode cX10_isFull 12 = .ok (.if_icmp .le 7, 3) := by decide +kernel
theorem dX10_isFull_15 : decode cX10_isFull 15 = .ok (.iconst 1, 1) := by decide +kernel
theorem dX10_isFull_16 : decode cX10_isFull 16 = .ok (.goto 4, 3) := by decide +kernel
theorem dX10_isFull_19 : decode cX10_isFull 19 = .ok (.iconst 0, 1) := by decide +kernel
theorem dX10_isFull_20 : decode cX10_isFull 20 = .ok (.ireturn, 1) := by decide +kernel
theorem dX10_added_0 : decode cX10_added 0 = .ok (.aload_n 0, 1) := by decide +kernel
theorem dX10_added_1 : decode cX10_added 1 = .ok (.getfield 18, 3) := by decide +kernel
theorem dX10_added_4 : decode cX10_added 4 = .ok (.aload_n 0, 1) := by decide +kernel
theorem dX10_added_5 : decode cX10_added 5 = .ok (.getfield 45, 3) := by decide +kernel
theorem dX10_added_8 : decode cX10_added 8 = .ok (.aload_n 1, 1) := by decide +kernel
theorem dX10_added_9 : decode cX10_added 9 = .ok (.aastore, 1) := by decide +kernel
theorem dX10_added_10 : decode cX10_added 10 = .ok (.aload_n 0, 1) := by decide +kernel
theorem dX10_added_11 : decode cX10_added 11 = .ok (.dup, 1) := by decide +kernel
theorem dX10_added_12 : decode cX10_added 12 = .ok (.getfield 45, 3) := by decide +kernel
theorem dX10_added_15 : decode cX10_added 15 = .ok (.iconst 1, 1) := by decide +kernel
theorem dX10_added_16 : decode cX10_added 16 = .ok (.iadd, 1) := by decide +kernel
theorem dX10_added_17 : decode cX10_added 17 = .ok (.putfield 45, 3) := by decide +kernel
theorem dX10_added_20 : decode cX10_added 20 = .ok (.aload_n 0, 1) := by decide +kernel
theorem dX10_added_21 : decode cX10_added 21 = .ok (.getfield 45, 3) := by decide +kernel
theorem dX10_added_24 : decode cX10_added 24 = .ok (.iconst 1, 1) := by decide +kernel
theorem dX10_added_25 : decode cX10_added 25 = .ok (.isub, 1) := by decide +kernel
theorem dX10_added_26 : decode cX10_added 26 = .ok (.ireturn, 1) := by decide +kernel
theorem dX11_init_0 : decode cX11_init 0 = .ok (.aload_n 0, 1) := by decide +kernel
theorem dX11_init_1 : decode cX11_init 1 = .ok (.invokespecial 1, 3) := by decide +kernel
theorem dX11_init_4 : decode cX11_init 4 = .ok (.aload_n 0, 1) := by decide +kernel
theorem dX11_init_5 : decode cX11_init 5 = .ok (.sipush 201, 3) := by decide +kernel
theorem dX11_init_8 : decode cX11_init 8 = .ok (.newarray .int, 2) := by decide +kernel
theorem dX11_init_10 : decode cX11_init 10 = .ok (.putfield 7, 3) := by decide +kernel
theorem dX11_init_13 : decode cX11_init 13 = .ok (.aload_n 0, 1) := by decide +kernel
theorem dX11_init_14 : decode cX11_init 14 = .ok (.sipush 201, 3) := by decide +kernel
theorem dX11_init_17 : decode cX11_init 17 = .ok (.newarray .int, 2) := by decide +kernel
theorem dX11_init_19 : decode cX11_init 19 = .ok (.putfield 13, 3) := by decide +kernel
theorem dX11_init_22 : decode cX11_init 22 = .ok (.aload_n 0, 1) := by decide +kernel
theorem dX11_init_23 : decode cX11_init 23 = .ok (.sipush 201, 3) := by decide +kernel
theorem dX11_init_26 : decode cX11_init 26 = .ok (.newarray .int, 2) := by decide +kernel
theorem dX11_init_28 : decode cX11_init 28 = .ok (.putfield 16, 3) := by decide +kernel
theorem dX11_init_31 : decode cX11_init 31 = .ok (.aload_n 0, 1) := by decide +kernel
theorem dX11_init_32 : decode cX11_init 32 = .ok (.sipush 201, 3) := by decide +kernel
theorem dX11_init_35 : decode cX11_init 35 = .ok (.newarray .int, 2) := by decide +kernel
theorem dX11_init_37 : decode cX11_init 37 = .ok (.putfield 19, 3) := by decide +kernel
theorem dX11_init_40 : decode cX11_init 40 = .ok (.aload_n 0, 1) := by decide +kernel
theorem dX11_init_41 : decode cX11_init 41 = .ok (.sipush 3000, 3) := by decide +kernel
theorem dX11_init_44 : decode cX11_init 44 = .ok (.newarray .long, 2) := by decide +kernel
theorem dX11_init_46 : decode cX11_init 46 = .ok (.putfield 22, 3) := by decide +kernel
theorem dX11_init_49 : decode cX11_init 49 = .ok (.aload_n 0, 1) := by decide +kernel
theorem dX11_init_50 : decode cX11_init 50 = .ok (.bipush 12, 2) := by decide +kernel
theorem dX11_init_52 : decode cX11_init 52 = .ok (.newarray .int, 2) := by decide +kernel
theorem dX11_init_54 : decode cX11_init 54 = .ok (.putfield 26, 3) := by decide +kernel
theorem dX11_init_57 : decode cX11_init 57 = .ok (.aload_n 0, 1) := by decide +kernel
theorem dX11_init_58 : decode cX11_init 58 = .ok (.bipush 8, 2) := by decide +kernel
theorem dX11_init_60 : decode cX11_init 60 = .ok (.newarray .long, 2) := by decide +kernel
theorem dX11_init_62 : decode cX11_init 62 = .ok (.putfield 29, 3) := by decide +kernel
theorem dX11_init_65 : decode cX11_init 65 = .ok (.aload_n 0, 1) := by decide +kernel
theorem dX11_init_66 : decode cX11_init 66 = .ok (.bipush 80, 2) := by decide +kernel
theorem dX11_init_68 : decode cX11_init 68 = .ok (.newarray .int, 2) := by decide +kernel
theorem dX11_init_70 : decode cX11_init 70 = .ok (.putfield 32, 3) := by decide +kernel
theorem dX11_init_73 : decode cX11_init 73 = .ok (.aload_n 0, 1) := by decide +kernel
theorem dX11_init_74 : decode cX11_init 74 = .ok (.bipush 80, 2) := by decide +kernel
theorem dX11_init_76 : decode cX11_init 76 = .ok (.newarray .int, 2) := by decide +kernel
theorem dX11_init_78 : decode cX11_init 78 = .ok (.putfield 35, 3) := by decide +kernel
theorem dX11_init_81 : decode cX11_init 81 = .ok (.aload_n 0, 1) := by decide +kernel
theorem dX11_init_82 : decode cX11_init 82 = .ok (.bipush 80, 2) := by decide +kernel
theorem dX11_init_84 : decode cX11_init 84 = .ok (.newarray .int, 2) := by decide +kernel
theorem dX11_init_86 : decode cX11_init 86 = .ok (.putfield 38, 3) := by decide +kernel
theorem dX11_init_89 : decode cX11_init 89 = .ok (.aload_n 0, 1) := by decide +kernel
theorem dX11_init_90 : decode cX11_init 90 = .ok (.bipush 80, 2) := by decide +kernel
theorem dX11_init_92 : decode cX11_init 92 = .ok (.newarray .int, 2) := by decide +kernel
theorem dX11_init_94 : decode cX11_init 94 = .ok (.putfield 41, 3) := by decide +kernel
theorem dX11_init_97 : decode cX11_init 97 = .ok (.aload_n 0, 1) := by decide +kernel
theorem dX11_init_98 : decode cX11_init 98 = .ok (.bipush 80, 2) := by decide +kernel
theorem dX11_init_100 : decode cX11_init 100 = .ok (.newarray .int, 2) := by decide +kernel
theorem dX11_init_102 : decode cX11_init 102 = .ok (.putfield 44, 3) := by decide +kernel
theorem dX11_init_105 : decode cX11_init 105 = .ok (.aload_n 0, 1) := by decide +kernel
theorem dX11_init_106 : decode cX11_init 106 = .ok (.bipush 80, 2) := by decide +kernel
theorem dX11_init_108 : decode cX11_init 108 = .ok (.newarray .int, 2) := by decide +kernel
theorem dX11_init_110 : decode cX11_init 110 = .ok (.putfield 47, 3) := by decide +kernel
theorem dX11_init_113 : decode cX11_init 113 = .ok (.aload_n 0, 1) := by decide +kernel
theorem dX11_init_114 : decode cX11_init 114 = .ok (.bipush 80, 2) := by decide +kernel
theorem dX11_init_116 : decode cX11_init 116 = .ok (.newarray .int, 2) := by decide +kernel
theorem dX11_init_118 : decode cX11_init 118 = .ok (.putfield 50, 3) := by decide +kernel
theorem dX11_init_121 : decode cX11_init 121 = .ok (.aload_n 0, 1) := by decide +kernel
theorem dX11_init_122 : decode cX11_init 122 = .ok (.iconst (-1), 1) := by decide +kernel
theorem dX11_init_123 : decode cX11_init 123 = .ok (.putfield 53, 3) := by decide +kernel
theorem dX11_init_126 : decode cX11_init 126 = .ok (.aload_n 0, 1) := by decide +kernel
theorem dX11_init_127 : decode cX11_init 127 = .ok (.sipush 3000, 3) := by decide +kernel
theorem dX11_init_130 : decode cX11_init 130 = .ok (.newarray .long, 2) := by decide +kernel
theorem dX11_init_132 : decode cX11_init 132 = .ok (.putfield 57, 3) := by decide +kernel
theorem dX11_init_135 : decode cX11_init 135 = .ok (.aload_n 0, 1) := by decide +kernel
theorem dX11_init_136 : decode cX11_init 136 = .ok (.bipush 82, 2) := by decide +kernel
theorem dX11_init_138 : decode cX11_init 138 = .ok (.newarray .int, 2) := by decide +kernel
theorem dX11_init_140 : decode cX11_init 140 = .ok (.putfield 60, 3) := by decide +kernel
theorem dX11_init_143 : decode cX11_init 143 = .ok (.aload_n 0, 1) := by decide +kernel
theorem dX11_init_144 : decode cX11_init 144 = .ok (.bipush 82, 2) := by decide +kernel
theorem dX11_init_146 : decode cX11_init 146 = .ok (.newarray .int, 2) := by decide +kernel
theorem dX11_init_148 : decode cX11_init 148 = .ok (.putfield 63, 3) := by decide +kernel
theorem dX11_init_151 : decode cX11_init 151 = .ok (.aload_n 0, 1) := by decide +kernel
theorem dX11_init_152 : decode cX11_init 152 = .ok (.bipush 82, 2) := by decide +kernel
theorem dX11_init_154 : decode cX11_init 154 = .ok (.newarray .int, 2) := by decide +kernel
theorem dX11_init_156 : decode cX11_init 156 = .ok (.putfield 66, 3) := by decide +kernel
theorem dX11_init_159 : decode cX11_init 159 = .ok (.aload_n 0, 1) := by decide +kernel
theorem dX11_init_160 : decode cX11_init 160 = .ok (.bipush 12, 2) := by decide +kernel
theorem dX11_init_162 : decode cX11_init 162 = .ok (.newarray .int, 2) := by decide +kernel
theorem dX11_init_164 : decode cX11_init 164 = .ok (.putfield 69, 3) := by decide +kernel
theorem dX11_init_167 : decode cX11_init 167 = .ok (.aload_n 0, 1) := by decide +kernel
theorem dX11_init_168 : decode cX11_init 168 = .ok (.bipush 12, 2) := by decide +kernel
theorem dX11_init_170 : decode cX11_init 170 = .ok (.newarray .boolean, 2) := by decide +kernel
theorem dX11_init_172 : decode cX11_init 172 = .ok (.putfield 72, 3) := by decide +kernel
theorem dX11_init_175 : decode cX11_init 175 = .ok (.aload_n 0, 1) := by decide +kernel
theorem dX11_init_176 : decode cX11_init 176 = .ok (.bipush 80, 2) := by decide +kernel
theorem dX11_init_178 : decode cX11_init 178 = .ok (.newarray .boolean, 2) := by decide +kernel
theorem dX11_init_180 : decode cX11_init 180 = .ok (.putfield 76, 3) := by decide +kernel
theorem dX11_init_183 : decode cX11_init 183 = .ok (.aload_n 0, 1) := by decide +kernel
theorem dX11_init_184 : decode cX11_init 184 = .ok (.bipush 80, 2) := by decide +kernel
theorem dX11_init_186 : decode cX11_init 186 = .ok (.newarray .int, 2) := by decide +kernel
theorem dX11_init_188 : decode cX11_init 188 = .ok (.putfield 79, 3) := by decide +kernel
theorem dX11_init_191 : decode cX11_init 191 = .ok (.aload_n 0, 1) := by decide +kernel
theorem dX11_init_192 : decode cX11_init 192 = .ok (.sipush 960, 3) := by decide +kernel
theorem dX11_init_195 : decode cX11_init 195 = .ok (.newarray .int, 2) := by decide +kernel
theorem dX11_init_197 : decode cX11_init 197 = .ok (.putfield 82, 3) := by decide +kernel
theorem dX11_init_200 : decode cX11_init 200 = .ok (.aload_n 0, 1) := by decide +kernel
theorem dX11_init_201 : decode cX11_init 201 = .ok (.bipush 80, 2) := by decide +kernel
theorem dX11_init_203 : decode cX11_init 203 = .ok (.newarray .int, 2) := by decide +kernel
theorem dX11_init_205 : decode cX11_init 205 = .ok (.putfield 85, 3) := by decide +kernel
theorem dX11_init_208 : decode cX11_init 208 = .ok (.aload_n 0, 1) := by decide +kernel
theorem dX11_init_209 : decode cX11_init 209 = .ok (.bipush 80, 2) := by decide +kernel
theorem dX11_init_211 : decode cX11_init 211 = .ok (.newarray .int, 2) := by decide +kernel
theorem dX11_init_213 : decode cX11_init 213 = .ok (.putfield 88, 3) := by decide +kernel
theorem dX11_init_216 : decode cX11_init 216 = .ok (.aload_n 0, 1) := by decide +kernel
theorem dX11_init_217 : decode cX11_init 217 = .ok (.sipush 8856, 3) := by decide +kernel
theorem dX11_init_220 : decode cX11_init 220 = .ok (.newarray .int, 2) := by decide +kernel
theorem dX11_init_222 : decode cX11_init 222 = .ok (.putfield 91, 3) := by decide +kernel
theorem dX11_init_225 : decode cX11_init 225 = .ok (.aload_n 0, 1) := by decide +kernel
theorem dX11_init_226 : decode cX11_init 226 = .ok (.sipush 8856, 3) := by decide +kernel
theorem dX11_init_229 : decode cX11_init 229 = .ok (.newarray .int, 2) := by decide +kernel
theorem dX11_init_231 : decode cX11_init 231 = .ok (.putfield 94, 3) := by decide +kernel
theorem dX11_init_234 : decode cX11_init 234 = .ok (.aload_n 0, 1) := by decide +kernel
theorem dX11_init_235 : decode cX11_init 235 = .ok (.sipush 984, 3) := by decide +kernel
theorem dX11_init_238 : decode cX11_init 238 = .ok (.newarray .int, 2) := by decide +kernel
theorem dX11_init_240 : decode cX11_init 240 = .ok (.putfield 97, 3) := by decide +kernel
theorem dX11_init_243 : decode cX11_init 243 = .ok (.aload_n 0, 1) := by decide +kernel
theorem dX11_init_244 : decode cX11_init 244 = .ok (.bipush 12, 2) := by decide +kernel
theorem dX11_init_246 : decode cX11_init 246 = .ok (.newarray .int, 2) := by decide +kernel
theorem dX11_init_248 : decode cX11_init 248 = .ok (.putfield 100, 3) := by decide +kernel
theorem dX11_init_251 : decode cX11_init 251 = .ok (.return_, 1) := by decide +kernel
theorem dX11_in_0 : decode cX11_in 0 = .ok (.iload_n 0, 1) := by decide +kernel
theorem dX11_in_1 : decode cX11_in 1 = .ok (.iload_n 1, 1) := by decide +kernel
theorem dX11_in_2 : decode cX11_in 2 = .ok (.if_icmp .lt 12, 3) := by decide +kernel
theorem dX11_in_5 : decode cX11_in 5 = .ok (.iload_n 0, 1) := by decide +kernel
theorem dX11_in_6 : decode cX11_in 6 = .ok (.iload_n 2, 1) := by decide +kernel
theorem dX11_in_7 : decode cX11_in 7 = .ok (.if_icmp .gt 7, 3) := by decide +kernel
theorem dX11_in_10 : decode cX11_in 10 = .ok (.iconst 1, 1) := by decide +kernel
theorem dX11_in_11 : decode cX11_in 11 = .ok (.goto 4, 3) := by decide +kernel
theorem dX11_in_14 : decode cX11_in 14 = .ok (.iconst 0, 1) := by decide +kernel
theorem dX11_in_15 : decode cX11_in 15 = .ok (.ireturn, 1) := by decide +kernel
theorem dX11_isSlot_0 : decode cX11_isSlot 0 = .ok (.iload_n 0, 1) := by decide +kernel
theorem dX11_isSlot_1 : decode cX11_isSlot 1 = .ok (.iconst 0, 1) := by decide +kernel
theorem dX11_isSlot_2 : decode cX11_isSlot 2 = .ok (.bipush 11, 2) := by decide +kernel
theorem dX11_isSlot_4 : decode cX11_isSlot 4 = .ok (.invokestatic 103, 3) := by decide +kernel
theorem dX11_isSlot_7 : decode cX11_isSlot 7 = .ok (.ireturn, 1) := by decide +kernel
theorem dX11_isRegister_0 : decode cX11_isRegister 0 = .ok (.iload_n 0, 1) := by decide +kernel
theorem dX11_isRegister_1 : decode cX11_isRegister 1 = .ok (.iconst 0, 1) := by decide +kernel
theorem dX11_isRegister_2 : decode cX11_isRegister 2 = .ok (.bipush 7, 2) := by decide +kernel
theorem dX11_isRegister_4 : decode cX11_isRegister 4 = .ok (.invokestatic 103, 3) := by decide +kernel
theorem dX11_isRegister_7 : decode cX11_isRegister 7 = .ok (.ireturn, 1) := by decide +kernel
theorem dX11_mask_0 : decode cX11_mask 0 = .ok (.iconst 1, 1) := by decide +kernel
theorem dX11_mask_1 : decode cX11_mask 1 = .ok (.iload_n 0, 1) := by decide +kernel
theorem dX11_mask_2 : decode cX11_mask 2 = .ok (.ishl, 1) := by decide +kernel
theorem dX11_mask_3 : decode cX11_mask 3 = .ok (.iload_n 0, 1) := by decide +kernel
theorem dX11_mask_4 : decode cX11_mask 4 = .ok (.bipush 8, 2) := by decide +kernel
theorem dX11_mask_6 : decode cX11_mask 6 = .ok (.if_icmp .ne 9, 3) := by decide +kernel
theorem dX11_mask_9 : decode cX11_mask 9 = .ok (.sipush 512, 3) := by decide +kernel
theorem dX11_mask_12 : decode cX11_mask 12 = .ok (.goto 4, 3) := by decide +kernel
theorem dX11_mask_15 : decode cX11_mask 15 = .ok (.iconst 0, 1) := by decide +kernel
theorem dX11_mask_16 : decode cX11_mask 16 = .ok (.ior, 1) := by decide +kernel
theorem dX11_mask_17 : decode cX11_mask 17 = .ok (.iload_n 0, 1) := by decide +kernel
theorem dX11_mask_18 : decode cX11_mask 18 = .ok (.bipush 6, 2) := by decide +kernel
theorem dX11_mask_20 : decode cX11_mask 20 = .ok (.if_icmp .ne 9, 3) := by decide +kernel
theorem dX11_mask_23 : decode cX11_mask 23 = .ok (.sipush 128, 3) := by decide +kernel
theorem dX11_mask_26 : decode cX11_mask 26 = .ok (.goto 4, 3) := by decide +kernel
theorem dX11_mask_29 : decode cX11_mask 29 = .ok (.iconst 0, 1) := by decide +kernel
theorem dX11_mask_30 : decode cX11_mask 30 = .ok (.ior, 1) := by decide +kernel
theorem dX11_mask_31 : decode cX11_mask 31 = .ok (.ireturn, 1) := by decide +kernel
theorem dX11_is_0 : decode cX11_is 0 = .ok (.iload_n 2, 1) := by decide +kernel
theorem dX11_is_1 : decode cX11_is 1 = .ok (.invokestatic 107, 3) := by decide +kernel
theorem dX11_is_4 : decode cX11_is 4 = .ok (.aload_n 0, 1) := by decide +kernel
theorem dX11_is_5 : decode cX11_is 5 = .ok (.getfield 7, 3) := by decide +kernel
theorem dX11_is_8 : decode cX11_is 8 = .ok (.iload_n 1, 1) := by decide +kernel
theorem dX11_is_9 : decode cX11_is 9 = .ok (.iaload, 1) := by decide +kernel
theorem dX11_is_10 : decode cX11_is 10 = .ok (.ishr, 1) := by decide +kernel
theorem dX11_is_11 : decode cX11_is 11 = .ok (.iconst 1, 1) := by decide +kernel
theorem dX11_is_12 : decode cX11_is 12 = .ok (.iand, 1) := by decide +kernel
theorem dX11_is_13 : decode cX11_is 13 = .ok (.iconst 1, 1) := by decide +kernel
theorem dX11_is_14 : decode cX11_is 14 = .ok (.if_icmp .ne 7, 3) := by decide +kernel
theorem dX11_is_17 : decode cX11_is 17 = .ok (.iconst 1, 1) := by decide +kernel
theorem dX11_is_18 : decode cX11_is 18 = .ok (.goto 4, 3) := by decide +kernel
theorem dX11_is_21 : decode cX11_is 21 = .ok (.iconst 0, 1) := by decide +kernel
theorem dX11_is_22 : decode cX11_is 22 = .ok (.ireturn, 1) := by decide +kernel
theorem dX11_fresh_0 : decode cX11_fresh 0 = .ok (.aload_n 0, 1) := by decide +kernel
theorem dX11_fresh_1 : decode cX11_fresh 1 = .ok (.dup, 1) := by decide +kernel
theorem dX11_fresh_2 : decode cX11_fresh 2 = .ok (.getfield 111, 3) := by decide +kernel
theorem dX11_fresh_5 : decode cX11_fresh 5 = .ok (.iconst 1, 1) := by decide +kernel
theorem dX11_fresh_6 : decode cX11_fresh 6 = .ok (.iadd, 1) := by decide +kernel
theorem dX11_fresh_7 : decode cX11_fresh 7 = .ok (.putfield 111, 3) := by decide +kernel
theorem dX11_fresh_10 : decode cX11_fresh 10 = .ok (.aload_n 0, 1) := by decide +kernel
theorem dX11_fresh_11 : decode cX11_fresh 11 = .ok (.getfield 7, 3) := by decide +kernel
theorem dX11_fresh_14 : decode cX11_fresh 14 = .ok (.aload_n 0, 1) := by decide +kernel
theorem dX11_fresh_15 : decode cX11_fresh 15 = .ok (.getfield 111, 3) := by decide +kernel
theorem dX11_fresh_18 : decode cX11_fresh 18 = .ok (.iload_n 1, 1) := by decide +kernel
theorem dX11_fresh_19 : decode cX11_fresh 19 = .ok (.iastore, 1) := by decide +kernel
theorem dX11_fresh_20 : decode cX11_fresh 20 = .ok (.aload_n 0, 1) := by decide +kernel
theorem dX11_fresh_21 : decode cX11_fresh 21 = .ok (.getfield 13, 3) := by decide +kernel
theorem dX11_fresh_24 : decode cX11_fresh 24 = .ok (.aload_n 0, 1) := by decide +kernel
theorem dX11_fresh_25 : decode cX11_fresh 25 = .ok (.getfield 111, 3) := by decide +kernel
theorem dX11_fresh_28 : decode cX11_fresh 28 = .ok (.aload_n 0, 1) := by decide +kernel
theorem dX11_fresh_29 : decode cX11_fresh 29 = .ok (.getfield 114, 3) := by decide +kernel
theorem dX11_fresh_32 : decode cX11_fresh 32 = .ok (.iastore, 1) := by decide +kernel
theorem dX11_fresh_33 : decode cX11_fresh 33 = .ok (.aload_n 0, 1) := by decide +kernel
theorem dX11_fresh_34 : decode cX11_fresh 34 = .ok (.getfield 16, 3) := by decide +kernel
theorem dX11_fresh_37 : decode cX11_fresh 37 = .ok (.aload_n 0, 1) := by decide +kernel
theorem dX11_fresh_38 : decode cX11_fresh 38 = .ok (.getfield 111, 3) := by decide +kernel
theorem dX11_fresh_41 : decode cX11_fresh 41 = .ok (.iload_n 2, 1) := by decide +kernel
theorem dX11_fresh_42 : decode cX11_fresh 42 = .ok (.iastore, 1) := by decide +kernel
theorem dX11_fresh_43 : decode cX11_fresh 43 = .ok (.aload_n 0, 1) := by decide +kernel
theorem dX11_fresh_44 : decode cX11_fresh 44 = .ok (.getfield 19, 3) := by decide +kernel
theorem dX11_fresh_47 : decode cX11_fresh 47 = .ok (.aload_n 0, 1) := by decide +kernel
theorem dX11_fresh_48 : decode cX11_fresh 48 = .ok (.getfield 111, 3) := by decide +kernel
theorem dX11_fresh_51 : decode cX11_fresh 51 = .ok (.iconst 0, 1) := by decide +kernel
theorem dX11_fresh_52 : decode cX11_fresh 52 = .ok (.iastore, 1) := by decide +kernel
theorem dX11_fresh_53 : decode cX11_fresh 53 = .ok (.iconst 0, 1) := by decide +kernel
theorem dX11_fresh_54 : decode cX11_fresh 54 = .ok (.istore_n 3, 1) := by decide +kernel
theorem dX11_fresh_55 : decode cX11_fresh 55 = .ok (.iload_n 3, 1) := by decide +kernel
theorem dX11_fresh_56 : decode cX11_fresh 56 = .ok (.iload_n 2, 1) := by decide +kernel
theorem dX11_fresh_57 : decode cX11_fresh 57 = .ok (.if_icmp .ge 21, 3) := by decide +kernel
theorem dX11_fresh_60 : decode cX11_fresh 60 = .ok (.aload_n 0, 1) := by decide +kernel
theorem dX11_fresh_61 : decode cX11_fresh 61 = .ok (.getfield 22, 3) := by decide +kernel
theorem dX11_fresh_64 : decode cX11_fresh 64 = .ok (.aload_n 0, 1) := by decide +kernel
theorem dX11_fresh_65 : decode cX11_fresh 65 = .ok (.getfield 114, 3) := by decide +kernel
theorem dX11_fresh_68 : decode cX11_fresh 68 = .ok (.iload_n 3, 1) := by decide +kernel
theorem dX11_fresh_69 : decode cX11_fresh 69 = .ok (.iadd, 1) := by decide +kernel
theorem dX11_fresh_70 : decode cX11_fresh 70 = .ok (.lconst 0, 1) := by decide +kernel
theorem dX11_fresh_71 : decode cX11_fresh 71 = .ok (.lastore, 1) := by decide +kernel
theorem dX11_fresh_72 : decode cX11_fresh 72 = .ok (.iinc 3 1, 3) := by decide +kernel
theorem dX11_fresh_75 : decode cX11_fresh 75 = .ok (.goto (-20), 3) := by decide +kernel
theorem dX11_fresh_78 : decode cX11_fresh 78 = .ok (.aload_n 0, 1) := by decide +kernel
theorem dX11_fresh_79 : decode cX11_fresh 79 = .ok (.dup, 1) := by decide +kernel
theorem dX11_fresh_80 : decode cX11_fresh 80 = .ok (.getfield 114, 3) := by decide +kernel
theorem dX11_fresh_83 : decode cX11_fresh 83 = .ok (.iload_n 2, 1) := by decide +kernel
theorem dX11_fresh_84 : decode cX11_fresh 84 = .ok (.iadd, 1) := by decide +kernel
theorem dX11_fresh_85 : decode cX11_fresh 85 = .ok (.putfield 114, 3) := by decide +kernel
theorem dX11_fresh_88 : decode cX11_fresh 88 = .ok (.aload_n 0, 1) := by decide +kernel
theorem dX11_fresh_89 : decode cX11_fresh 89 = .ok (.getfield 111, 3) := by decide +kernel
theorem dX11_fresh_92 : decode cX11_fresh 92 = .ok (.ireturn, 1) := by decide +kernel
theorem dX11_fits_0 : decode cX11_fits 0 = .ok (.aload_n 0, 1) := by decide +kernel
theorem dX11_fits_1 : decode cX11_fits 1 = .ok (.getfield 111, 3) := by decide +kernel
theorem dX11_fits_4 : decode cX11_fits 4 = .ok (.i2l, 1) := by decide +kernel
theorem dX11_fits_5 : decode cX11_fits 5 = .ok (.lload_n 1, 1) := by decide +kernel
theorem dX11_fits_6 : decode cX11_fits 6 = .ok (.ladd, 1) := by decide +kernel
theorem dX11_fits_7 : decode cX11_fits 7 = .ok (.ldc2_w 117, 3) := by decide +kernel
theorem dX11_fits_10 : decode cX11_fits 10 = .ok (.lcmp, 1) := by decide +kernel
theorem dX11_fits_11 : decode cX11_fits 11 = .ok (.ifCond .gt 21, 3) := by decide +kernel
theorem dX11_fits_14 : decode cX11_fits 14 = .ok (.aload_n 0, 1) := by decide +kernel
theorem dX11_fits_15 : decode cX11_fits 15 = .ok (.getfield 114, 3) := by decide +kernel
theorem dX11_fits_18 : decode cX11_fits 18 = .ok (.i2l, 1) := by decide +kernel
theorem dX11_fits_19 : decode cX11_fits 19 = .ok (.lload_n 3, 1) := by decide +kernel
theorem dX11_fits_20 : decode cX11_fits 20 = .ok (.ladd, 1) := by decide +kernel
theorem dX11_fits_21 : decode cX11_fits 21 = .ok (.ldc2_w 119, 3) := by decide +kernel
theorem dX11_fits_24 : decode cX11_fits 24 = .ok (.lcmp, 1) := by decide +kernel
theorem dX11_fits_25 : decode cX11_fits 25 = .ok (.ifCond .gt 7, 3) := by decide +kernel
theorem dX11_fits_28 : decode cX11_fits 28 = .ok (.iconst 1, 1) := by decide +kernel
theorem dX11_fits_29 : decode cX11_fits 29 = .ok (.goto 4, 3) := by decide +kernel
theorem dX11_fits_32 : decode cX11_fits 32 = .ok (.iconst 0, 1) := by decide +kernel
theorem dX11_fits_33 : decode cX11_fits 33 = .ok (.ireturn, 1) := by decide +kernel
theorem dX11_isNode_0 : decode cX11_isNode 0 = .ok (.iload_n 1, 1) := by decide +kernel
theorem dX11_isNode_1 : decode cX11_isNode 1 = .ok (.iconst 0, 1) := by decide +kernel
theorem dX11_isNode_2 : decode cX11_isNode 2 = .ok (.aload_n 0, 1) := by decide +kernel
theorem dX11_isNode_3 : decode cX11_isNode 3 = .ok (.getfield 121, 3) := by decide +kernel
theorem dX11_isNode_6 : decode cX11_isNode 6 = .ok (.iconst 1, 1) := by decide +kernel
theorem dX11_isNode_7 : decode cX11_isNode 7 = .ok (.isub, 1) := by decide +kernel
theorem dX11_isNode_8 : decode cX11_isNode 8 = .ok (.invokestatic 103, 3) := by decide +kernel
theorem dX11_isNode_11 : decode cX11_isNode 11 = .ok (.ireturn, 1) := by decide +kernel
theorem dX11_node_0 : decode cX11_node 0 = .ok (.aload_n 0, 1) := by decide +kernel
theorem dX11_node_1 : decode cX11_node 1 = .ok (.getfield 121, 3) := by decide +kernel
theorem dX11_node_4 : decode cX11_node 4 = .ok (.bipush 80, 2) := by decide +kernel
theorem dX11_node_6 : decode cX11_node 6 = .ok (.if_icmp .eq 10, 3) := by decide +kernel
theorem dX11_node_9 : decode cX11_node 9 = .ok (.iload 7, 2) := by decide +kernel
theorem dX11_node_11 : decode cX11_node 11 = .ok (.bipush 100, 2) := by decide +kernel
theorem dX11_node_13 : decode cX11_node 13 = .ok (.if_icmp .le 6, 3) := by decide +kernel
theorem dX11_node_16 : decode cX11_node 16 = .ok (.bipush (-2), 2) := by decide +kernel
theorem dX11_node_18 : decode cX11_node 18 = .ok (.ireturn, 1) := by decide +kernel
theorem dX11_node_19 : decode cX11_node 19 = .ok (.aload_n 0, 1) := by decide +kernel
theorem dX11_node_20 : decode cX11_node 20 = .ok (.getfield 32, 3) := by decide +kernel
theorem dX11_node_23 : decode cX11_node 23 = .ok (.aload_n 0, 1) := by decide +kernel
theorem dX11_node_24 : decode cX11_node 24 = .ok (.getfield 121, 3) := by decide +kernel
theorem dX11_node_27 : decode cX11_node 27 = .ok (.iload_n 1, 1) := by decide +kernel
theorem dX11_node_28 : decode cX11_node 28 = .ok (.iastore, 1) := by decide +kernel
theorem dX11_node_29 : decode cX11_node 29 = .ok (.aload_n 0, 1) := by decide +kernel
theorem dX11_node_30 : decode cX11_node 30 = .ok (.getfield 35, 3) := by decide +kernel
theorem dX11_node_33 : decode cX11_node 33 = .ok (.aload_n 0, 1) := by decide +kernel
theorem dX11_node_34 : decode cX11_node 34 = .ok (.getfield 121, 3) := by decide +kernel
theorem dX11_node_37 : decode cX11_node 37 = .ok (.iload_n 2, 1) := by decide +kernel
theorem dX11_node_38 : decode cX11_node 38 = .ok (.iastore, 1) := by decide +kernel
theorem dX11_node_39 : decode cX11_node 39 = .ok (.aload_n 0, 1) := by decide +kernel
theorem dX11_node_40 : decode cX11_node 40 = .ok (.getfield 38, 3) := by decide +kernel
theorem dX11_node_43 : decode cX11_node 43 = .ok (.aload_n 0, 1) := by decide +kernel
theorem dX11_node_44 : decode cX11_node 44 = .ok (.getfield 121, 3) := by decide +kernel
theorem dX11_node_47 : decode cX11_node 47 = .ok (.iload_n 3, 1) := by decide +kernel
theorem dX11_node_48 : decode cX11_node 48 = .ok (.iastore, 1) := by decide +kernel
theorem dX11_node_49 : decode cX11_node 49 = .ok (.aload_n 0, 1) := by decide +kernel
theorem dX11_node_50 : decode cX11_node 50 = .ok (.getfield 41, 3) := by decide +kernel
theorem dX11_node_53 : decode cX11_node 53 = .ok (.aload_n 0, 1) := by decide +kernel
theorem dX11_node_54 : decode cX11_node 54 = .ok (.getfield 121, 3) := by decide +kernel
theorem dX11_node_57 : decode cX11_node 57 = .ok (.iload 4, 2) := by decide +kernel
theorem dX11_node_59 : decode cX11_node 59 = .ok (.iastore, 1) := by decide +kernel
theorem dX11_node_60 : decode cX11_node 60 = .ok (.aload_n 0, 1) := by decide +kernel
theorem dX11_node_61 : decode cX11_node 61 = .ok (.getfield 44, 3) := by decide +kernel
theorem dX11_node_64 : decode cX11_node 64 = .ok (.aload_n 0, 1) := by decide +kernel
theorem dX11_node_65 : decode cX11_node 65 = .ok (.getfield 121, 3) := by decide +kernel
theorem dX11_node_68 : decode cX11_node 68 = .ok (.iload 5, 2) := by decide +kernel
theorem dX11_node_70 : decode cX11_node 70 = .ok (.iastore, 1) := by decide +kernel
theorem dX11_node_71 : decode cX11_node 71 = .ok (.aload_n 0, 1) := by decide +kernel
theorem dX11_node_72 : decode cX11_node 72 = .ok (.getfield 47, 3) := by decide +kernel
theorem dX11_node_75 : decode cX11_node 75 = .ok (.aload_n 0, 1) := by decide +kernel
theorem dX11_node_76 : decode cX11_node 76 = .ok (.getfield 121, 3) := by decide +kernel
theorem dX11_node_79 : decode cX11_node 79 = .ok (.iload 6, 2) := by decide +kernel
theorem dX11_node_81 : decode cX11_node 81 = .ok (.iastore, 1) := by decide +kernel
theorem dX11_node_82 : decode cX11_node 82 = .ok (.aload_n 0, 1) := by decide +kernel
theorem dX11_node_83 : decode cX11_node 83 = .ok (.getfield 50, 3) := by decide +kernel
theorem dX11_node_86 : decode cX11_node 86 = .ok (.aload_n 0, 1) := by decide +kernel
theorem dX11_node_87 : decode cX11_node 87 = .ok (.getfield 121, 3) := by decide +kernel
theorem dX11_node_90 : decode cX11_node 90 = .ok (.iload 7, 2) := by decide +kernel
theorem dX11_node_92 : decode cX11_node 92 = .ok (.iastore, 1) := by decide +kernel
theorem dX11_node_93 : decode cX11_node 93 = .ok (.aload_n 0, 1) := by decide +kernel
theorem dX11_node_94 : decode cX11_node 94 = .ok (.getfield 76, 3) := by decide +kernel
theorem dX11_node_97 : decode cX11_node 97 = .ok (.aload_n 0, 1) := by decide +kernel
theorem dX11_node_98 : decode cX11_node 98 = .ok (.getfield 121, 3) := by decide +kernel
theorem dX11_node_101 : decode cX11_node 101 = .ok (.iconst 0, 1) := by decide +kernel
theorem dX11_node_102 : decode cX11_node 102 = .ok (.bastore, 1) := by decide +kernel
theorem dX11_node_103 : decode cX11_node 103 = .ok (.aload_n 0, 1) := by decide +kernel
theorem dX11_node_104 : decode cX11_node 104 = .ok (.dup, 1) := by decide +kernel
theorem dX11_node_105 : decode cX11_node 105 = .ok (.getfield 121, 3) := by decide +kernel
theorem dX11_node_108 : decode cX11_node 108 = .ok (.iconst 1, 1) := by decide +kernel
theorem dX11_node_109 : decode cX11_node 109 = .ok (.iadd, 1) := by decide +kernel
theorem dX11_node_110 : decode cX11_node 110 = .ok (.putfield 121, 3) := by decide +kernel
theorem dX11_node_113 : decode cX11_node 113 = .ok (.aload_n 0, 1) := by decide +kernel
theorem dX11_node_114 : decode cX11_node 114 = .ok (.getfield 121, 3) := by decide +kernel
theorem dX11_node_117 : decode cX11_node 117 = .ok (.iconst 1, 1) := by decide +kernel
theorem dX11_node_118 : decode cX11_node 118 = .ok (.isub, 1) := by decide +kernel
theorem dX11_node_119 : decode cX11_node 119 = .ok (.ireturn, 1) := by decide +kernel
theorem dX11_isAct_0 : decode cX11_isAct 0 = .ok (.iload_n 0, 1) := by decide +kernel
theorem dX11_isAct_1 : decode cX11_isAct 1 = .ok (.tableswitch 388 0 16 #[83, 111, 111, 111, 116, 146, 175, 205, 235, 266, 296, 316, 336, 356, 361, 361, 361], 83) := by decide +kernel
theorem dX11_isAct_84 : decode cX11_isAct 84 = .ok (.iload_n 1, 1) := by decide +kernel
theorem dX11_isAct_85 : decode cX11_isAct 85 = .ok (.invokestatic 124, 3) := by decide +kernel
theorem dX11_isAct_88 : decode cX11_isAct 88 = .ok (.ifCond .eq 22, 3) := by decide +kernel
theorem dX11_isAct_91 : decode cX11_isAct 91 = .ok (.iload_n 2, 1) := by decide +kernel
theorem dX11_isAct_92 : decode cX11_isAct 92 = .ok (.iconst 1, 1) := by decide +kernel
theorem dX11_isAct_93 : decode cX11_isAct 93 = .ok (.bipush 7, 2) := by decide +kernel
theorem dX11_isAct_95 : decode cX11_isAct 95 = .ok (.invokestatic 103, 3) := by decide +kernel
theorem dX11_isAct_98 : decode cX11_isAct 98 = .ok (.ifCond .eq 12, 3) := by decide +kernel
theorem dX11_isAct_101 : decode cX11_isAct 101 = .ok (.iload_n 2, 1) := by decide +kernel
theorem dX11_isAct_102 : decode cX11_isAct 102 = .ok (.iconst 5, 1) := by decide +kernel
theorem dX11_isAct_103 : decode cX11_isAct 103 = .ok (.if_icmp .eq 7, 3) := by decide +kernel
theorem dX11_isAct_106 : decode cX11_isAct 106 = .ok (.iconst 1, 1) := by decide +kernel
theorem dX11_isAct_107 : decode cX11_isAct 107 = .ok (.goto 4, 3) := by decide +kernel
theorem dX11_isAct_110 : decode cX11_isAct 110 = .ok (.iconst 0, 1) := by decide +kernel
theorem dX11_isAct_111 : decode cX11_isAct 111 = .ok (.ireturn, 1) := by decide +kernel
theorem dX11_isAct_112 : decode cX11_isAct 112 = .ok (.iload_n 1, 1) := by decide +kernel
theorem dX11_isAct_113 : decode cX11_isAct 113 = .ok (.invokestatic 124, 3) := by decide +kernel
theorem dX11_isAct_116 : decode cX11_isAct 116 = .ok (.ireturn, 1) := by decide +kernel
theorem dX11_isAct_117 : decode cX11_isAct 117 = .ok (.iload_n 1, 1) := by decide +kernel
theorem dX11_isAct_118 : decode cX11_isAct 118 = .ok (.invokestatic 124, 3) := by decide +kernel
theorem dX11_isAct_121 : decode cX11_isAct 121 = .ok (.ifCond .eq 24, 3) := by decide +kernel
theorem dX11_isAct_124 : decode cX11_isAct 124 = .ok (.iload_n 2, 1) := by decide +kernel
theorem dX11_isAct_125 : decode cX11_isAct 125 = .ok (.invokestatic 124, 3) := by decide +kernel
theorem dX11_isAct_128 : decode cX11_isAct 128 = .ok (.ifCond .eq 17, 3) := by decide +kernel
theorem dX11_isAct_131 : decode cX11_isAct 131 = .ok (.iload_n 3, 1) := by decide +kernel
theorem dX11_isAct_132 : decode cX11_isAct 132 = .ok (.iconst 0, 1) := by decide +kernel
theorem dX11_isAct_133 : decode cX11_isAct 133 = .ok (.bipush 9, 2) := by decide +kernel
theorem dX11_isAct_135 : decode cX11_isAct 135 = .ok (.invokestatic 103, 3) := by decide +kernel
theorem dX11_isAct_138 : decode cX11_isAct 138 = .ok (.ifCond .eq 7, 3) := by decide +kernel
theorem dX11_isAct_141 : decode cX11_isAct 141 = .ok (.iconst 1, 1) := by decide +kernel
theorem dX11_isAct_142 : decode cX11_isAct 142 = .ok (.goto 4, 3) := by decide +kernel
theorem dX11_isAct_145 : decode cX11_isAct 145 = .ok (.iconst 0, 1) := by decide +kernel
theorem dX11_isAct_146 : decode cX11_isAct 146 = .ok (.ireturn, 1) := by decide +kernel
theorem dX11_isAct_147 : decode cX11_isAct 147 = .ok (.iload_n 1, 1) := by decide +kernel
theorem dX11_isAct_148 : decode cX11_isAct 148 = .ok (.invokestatic 128, 3) := by decide +kernel
theorem dX11_isAct_151 : decode cX11_isAct 151 = .ok (.ifCond .eq 23, 3) := by decide +kernel
theorem dX11_isAct_154 : decode cX11_isAct 154 = .ok (.iload_n 2, 1) := by decide +kernel
theorem dX11_isAct_155 : decode cX11_isAct 155 = .ok (.invokestatic 124, 3) := by decide +kernel
theorem dX11_isAct_158 : decode cX11_isAct 158 = .ok (.ifCond .eq 16, 3) := by decide +kernel
theorem dX11_isAct_161 : decode cX11_isAct 161 = .ok (.iload_n 3, 1) := by decide +kernel
theorem dX11_isAct_162 : decode cX11_isAct 162 = .ok (.iconst 1, 1) := by decide +kernel
theorem dX11_isAct_163 : decode cX11_isAct 163 = .ok (.iconst 4, 1) := by decide +kernel
theorem dX11_isAct_164 : decode cX11_isAct 164 = .ok (.invokestatic 103, 3) := by decide +kernel
theorem dX11_isAct_167 : decode cX11_isAct 167 = .ok (.ifCond .eq 7, 3) := by decide +kernel
theorem dX11_isAct_170 : decode cX11_isAct 170 = .ok (.iconst 1, 1) := by decide +kernel
theorem dX11_isAct_171 : decode cX11_isAct 171 = .ok (.goto 4, 3) := by decide +kernel
theorem dX11_isAct_174 : decode cX11_isAct 174 = .ok (.iconst 0, 1) := by decide +kernel
theorem dX11_isAct_175 : decode cX11_isAct 175 = .ok (.ireturn, 1) := by decide +kernel
theorem dX11_isAct_176 : decode cX11_isAct 176 = .ok (.iload_n 1, 1) := by decide +kernel
theorem dX11_isAct_177 : decode cX11_isAct 177 = .ok (.invokestatic 124, 3) := by decide +kernel
theorem dX11_isAct_180 : decode cX11_isAct 180 = .ok (.ifCond .eq 24, 3) := by decide +kernel
theorem dX11_isAct_183 : decode cX11_isAct 183 = .ok (.iload_n 2, 1) := by decide +kernel
theorem dX11_isAct_184 : decode cX11_isAct 184 = .ok (.iconst 1, 1) := by decide +kernel
theorem dX11_isAct_185 : decode cX11_isAct 185 = .ok (.iconst 4, 1) := by decide +kernel
theorem dX11_isAct_186 : decode cX11_isAct 186 = .ok (.invokestatic 103, 3) := by decide +kernel
theorem dX11_isAct_189 : decode cX11_isAct 189 = .ok (.ifCond .eq 15, 3) := by decide +kernel
theorem dX11_isAct_192 : decode cX11_isAct 192 = .ok (.iload 4, 2) := by decide +kernel
theorem dX11_isAct_194 : decode cX11_isAct 194 = .ok (.invokestatic 128, 3) := by decide +kernel
theorem dX11_isAct_197 : decode cX11_isAct 197 = .ok (.ifCond .eq 7, 3) := by decide +kernel
theorem dX11_isAct_200 : decode cX11_isAct 200 = .ok (.iconst 1, 1) := by decide +kernel
theorem dX11_isAct_201 : decode cX11_isAct 201 = .ok (.goto 4, 3) := by decide +kernel
theorem dX11_isAct_204 : decode cX11_isAct 204 = .ok (.iconst 0, 1) := by decide +kernel
theorem dX11_isAct_205 : decode cX11_isAct 205 = .ok (.ireturn, 1) := by decide +kernel
theorem dX11_isAct_206 : decode cX11_isAct 206 = .ok (.iload_n 1, 1) := by decide +kernel
theorem dX11_isAct_207 : decode cX11_isAct 207 = .ok (.invokestatic 124, 3) := by decide +kernel
theorem dX11_isAct_210 : decode cX11_isAct 210 = .ok (.ifCond .eq 24, 3) := by decide +kernel
theorem dX11_isAct_213 : decode cX11_isAct 213 = .ok (.iload_n 2, 1) := by decide +kernel
theorem dX11_isAct_214 : decode cX11_isAct 214 = .ok (.invokestatic 124, 3) := by decide +kernel
theorem dX11_isAct_217 : decode cX11_isAct 217 = .ok (.ifCond .eq 17, 3) := by decide +kernel
theorem dX11_isAct_220 : decode cX11_isAct 220 = .ok (.iload_n 3, 1) := by decide +kernel
theorem dX11_isAct_221 : decode cX11_isAct 221 = .ok (.iconst 5, 1) := by decide +kernel
theorem dX11_isAct_222 : decode cX11_isAct 222 = .ok (.bipush 7, 2) := by decide +kernel
theorem dX11_isAct_224 : decode cX11_isAct 224 = .ok (.invokestatic 103, 3) := by decide +kernel
theorem dX11_isAct_227 : decode cX11_isAct 227 = .ok (.ifCond .eq 7, 3) := by decide +kernel
theorem dX11_isAct_230 : decode cX11_isAct 230 = .ok (.iconst 1, 1) := by decide +kernel
theorem dX11_isAct_231 : decode cX11_isAct 231 = .ok (.goto 4, 3) := by decide +kernel
theorem dX11_isAct_234 : decode cX11_isAct 234 = .ok (.iconst 0, 1) := by decide +kernel
theorem dX11_isAct_235 : decode cX11_isAct 235 = .ok (.ireturn, 1) := by decide +kernel
theorem dX11_isAct_236 : decode cX11_isAct 236 = .ok (.iload_n 1, 1) := by decide +kernel
theorem dX11_isAct_237 : decode cX11_isAct 237 = .ok (.invokestatic 124, 3) := by decide +kernel
theorem dX11_isAct_240 : decode cX11_isAct 240 = .ok (.ifCond .eq 25, 3) := by decide +kernel
theorem dX11_isAct_243 : decode cX11_isAct 243 = .ok (.iload_n 2, 1) := by decide +kernel
theorem dX11_isAct_244 : decode cX11_isAct 244 = .ok (.iconst 5, 1) := by decide +kernel
theorem dX11_isAct_245 : decode cX11_isAct 245 = .ok (.bipush 7, 2) := by decide +kernel
theorem dX11_isAct_247 : decode cX11_isAct 247 = .ok (.invokestatic 103, 3) := by decide +kernel
theorem dX11_isAct_250 : decode cX11_isAct 250 = .ok (.ifCond .eq 15, 3) := by decide +kernel
theorem dX11_isAct_253 : decode cX11_isAct 253 = .ok (.iload 4, 2) := by decide +kernel
theorem dX11_isAct_255 : decode cX11_isAct 255 = .ok (.invokestatic 124, 3) := by decide +kernel
theorem dX11_isAct_258 : decode cX11_isAct 258 = .ok (.ifCond .eq 7, 3) := by decide +kernel
theorem dX11_isAct_261 : decode cX11_isAct 261 = .ok (.iconst 1, 1) := by decide +kernel
theorem dX11_isAct_262 : decode cX11_isAct 262 = .ok (.goto 4, 3) := by decide +kernel
theorem dX11_isAct_265 : decode cX11_isAct 265 = .ok (.iconst 0, 1) := by decide +kernel
theorem dX11_isAct_266 : decode cX11_isAct 266 = .ok (.ireturn, 1) := by decide +kernel
theorem dX11_isAct_267 : decode cX11_isAct 267 = .ok (.iload_n 1, 1) := by decide +kernel
theorem dX11_isAct_268 : decode cX11_isAct 268 = .ok (.invokestatic 128, 3) := by decide +kernel
theorem dX11_isAct_271 : decode cX11_isAct 271 = .ok (.ifCond .eq 24, 3) := by decide +kernel
theorem dX11_isAct_274 : decode cX11_isAct 274 = .ok (.iload_n 2, 1) := by decide +kernel
theorem dX11_isAct_275 : decode cX11_isAct 275 = .ok (.invokestatic 124, 3) := by decide +kernel
theorem dX11_isAct_278 : decode cX11_isAct 278 = .ok (.ifCond .eq 17, 3) := by decide +kernel
theorem dX11_isAct_281 : decode cX11_isAct 281 = .ok (.iload_n 3, 1) := by decide +kernel
theorem dX11_isAct_282 : decode cX11_isAct 282 = .ok (.iconst 1, 1) := by decide +kernel
theorem dX11_isAct_283 : decode cX11_isAct 283 = .ok (.bipush 7, 2) := by decide +kernel
theorem dX11_isAct_285 : decode cX11_isAct 285 = .ok (.invokestatic 103, 3) := by decide +kernel
theorem dX11_isAct_288 : decode cX11_isAct 288 = .ok (.ifCond .eq 7, 3) := by decide +kernel
theorem dX11_isAct_291 : decode cX11_isAct 291 = .ok (.iconst 1, 1) := by decide +kernel
theorem dX11_isAct_292 : decode cX11_isAct 292 = .ok (.goto 4, 3) := by decide +kernel
theorem dX11_isAct_295 : decode cX11_isAct 295 = .ok (.iconst 0, 1) := by decide +kernel
theorem dX11_isAct_296 : decode cX11_isAct 296 = .ok (.ireturn, 1) := by decide +kernel
theorem dX11_isAct_297 : decode cX11_isAct 297 = .ok (.iload_n 1, 1) := by decide +kernel
theorem dX11_isAct_298 : decode cX11_isAct 298 = .ok (.invokestatic 124, 3) := by decide +kernel
theorem dX11_isAct_301 : decode cX11_isAct 301 = .ok (.ifCond .eq 14, 3) := by decide +kernel
theorem dX11_isAct_304 : decode cX11_isAct 304 = .ok (.iload_n 2, 1) := by decide +kernel
theorem dX11_isAct_305 : decode cX11_isAct 305 = .ok (.invokestatic 124, 3) := by decide +kernel
theorem dX11_isAct_308 : decode cX11_isAct 308 = .ok (.ifCond .eq 7, 3) := by decide +kernel
theorem dX11_isAct_311 : decode cX11_isAct 311 = .ok (.iconst 1, 1) := by decide +kernel
theorem dX11_isAct_312 : decode cX11_isAct 312 = .ok (.goto 4, 3) := by decide +kernel
theorem dX11_isAct_315 : decode cX11_isAct 315 = .ok (.iconst 0, 1) := by decide +kernel
theorem dX11_isAct_316 : decode cX11_isAct 316 = .ok (.ireturn, 1) := by decide +kernel
theorem dX11_isAct_317 : decode cX11_isAct 317 = .ok (.iload_n 1, 1) := by decide +kernel
theorem dX11_isAct_318 : decode cX11_isAct 318 = .ok (.invokestatic 128, 3) := by decide +kernel
theorem dX11_isAct_321 : decode cX11_isAct 321 = .ok (.ifCond .eq 14, 3) := by decide +kernel
theorem dX11_isAct_324 : decode cX11_isAct 324 = .ok (.iload_n 2, 1) := by decide +kernel
theorem dX11_isAct_325 : decode cX11_isAct 325 = .ok (.invokestatic 124, 3) := by decide +kernel
theorem dX11_isAct_328 : decode cX11_isAct 328 = .ok (.ifCond .eq 7, 3) := by decide +kernel
theorem dX11_isAct_331 : decode cX11_isAct 331 = .ok (.iconst 1, 1) := by decide +kernel
theorem dX11_isAct_332 : decode cX11_isAct 332 = .ok (.goto 4, 3) := by decide +kernel
theorem dX11_isAct_335 : decode cX11_isAct 335 = .ok (.iconst 0, 1) := by decide +kernel
theorem dX11_isAct_336 : decode cX11_isAct 336 = .ok (.ireturn, 1) := by decide +kernel
theorem dX11_isAct_337 : decode cX11_isAct 337 = .ok (.iload_n 1, 1) := by decide +kernel
theorem dX11_isAct_338 : decode cX11_isAct 338 = .ok (.invokestatic 124, 3) := by decide +kernel
theorem dX11_isAct_341 : decode cX11_isAct 341 = .ok (.ifCond .eq 14, 3) := by decide +kernel
theorem dX11_isAct_344 : decode cX11_isAct 344 = .ok (.iload_n 3, 1) := by decide +kernel
theorem dX11_isAct_345 : decode cX11_isAct 345 = .ok (.invokestatic 124, 3) := by decide +kernel
theorem dX11_isAct_348 : decode cX11_isAct 348 = .ok (.ifCond .eq 7, 3) := by decide +kernel
theorem dX11_isAct_351 : decode cX11_isAct 351 = .ok (.iconst 1, 1) := by decide +kernel
theorem dX11_isAct_352 : decode cX11_isAct 352 = .ok (.goto 4, 3) := by decide +kernel
theorem dX11_isAct_355 : decode cX11_isAct 355 = .ok (.iconst 0, 1) := by decide +kernel
theorem dX11_isAct_356 : decode cX11_isAct 356 = .ok (.ireturn, 1) := by decide +kernel
theorem dX11_isAct_357 : decode cX11_isAct 357 = .ok (.iload_n 1, 1) := by decide +kernel
theorem dX11_isAct_358 : decode cX11_isAct 358 = .ok (.invokestatic 128, 3) := by decide +kernel
theorem dX11_isAct_361 : decode cX11_isAct 361 = .ok (.ireturn, 1) := by decide +kernel
theorem dX11_isAct_362 : decode cX11_isAct 362 = .ok (.iload_n 1, 1) := by decide +kernel
theorem dX11_isAct_363 : decode cX11_isAct 363 = .ok (.invokestatic 128, 3) := by decide +kernel
theorem dX11_isAct_366 : decode cX11_isAct 366 = .ok (.ifCond .eq 21, 3) := by decide +kernel
theorem dX11_isAct_369 : decode cX11_isAct 369 = .ok (.iload_n 2, 1) := by decide +kernel
theorem dX11_isAct_370 : decode cX11_isAct 370 = .ok (.invokestatic 128, 3) := by decide +kernel
theorem dX11_isAct_373 : decode cX11_isAct 373 = .ok (.ifCond .eq 14, 3) := by decide +kernel
theorem dX11_isAct_376 : decode cX11_isAct 376 = .ok (.iload_n 3, 1) := by decide +kernel
theorem dX11_isAct_377 : decode cX11_isAct 377 = .ok (.invokestatic 128, 3) := by decide +kernel
theorem dX11_isAct_380 : decode cX11_isAct 380 = .ok (.ifCond .eq 7, 3) := by decide +kernel
theorem dX11_isAct_383 : decode cX11_isAct 383 = .ok (.iconst 1, 1) := by decide +kernel
theorem dX11_isAct_384 : decode cX11_isAct 384 = .ok (.goto 4, 3) := by decide +kernel
theorem dX11_isAct_387 : decode cX11_isAct 387 = .ok (.iconst 0, 1) := by decide +kernel
theorem dX11_isAct_388 : decode cX11_isAct 388 = .ok (.ireturn, 1) := by decide +kernel
theorem dX11_isAct_389 : decode cX11_isAct 389 = .ok (.iload_n 0, 1) := by decide +kernel
theorem dX11_isAct_390 : decode cX11_isAct 390 = .ok (.bipush 17, 2) := by decide +kernel
theorem dX11_isAct_392 : decode cX11_isAct 392 = .ok (.if_icmp .ne 7, 3) := by decide +kernel
theorem dX11_isAct_395 : decode cX11_isAct 395 = .ok (.iconst 1, 1) := by decide +kernel
theorem dX11_isAct_396 : decode cX11_isAct 396 = .ok (.goto 4, 3) := by decide +kernel
theorem dX11_isAct_399 : decode cX11_isAct 399 = .ok (.iconst 0, 1) := by decide +kernel
theorem dX11_isAct_400 : decode cX11_isAct 400 = .ok (.ireturn, 1) := by decide +kernel
theorem dX11_act_0 : decode cX11_act 0 = .ok (.iload_n 1, 1) := by decide +kernel
theorem dX11_act_1 : decode cX11_act 1 = .ok (.iload_n 2, 1) := by decide +kernel
theorem dX11_act_2 : decode cX11_act 2 = .ok (.iload_n 3, 1) := by decide +kernel
theorem dX11_act_3 : decode cX11_act 3 = .ok (.iload 4, 2) := by decide +kernel
theorem dX11_act_5 : decode cX11_act 5 = .ok (.iload 5, 2) := by decide +kernel
theorem dX11_act_7 : decode cX11_act 7 = .ok (.invokestatic 131, 3) := by decide +kernel
theorem dX11_act_10 : decode cX11_act 10 = .ok (.ifCond .eq 19, 3) := by decide +kernel
theorem dX11_act_13 : decode cX11_act 13 = .ok (.aload_n 0, 1) := by decide +kernel
theorem dX11_act_14 : decode cX11_act 14 = .ok (.iconst 0, 1) := by decide +kernel
theorem dX11_act_15 : decode cX11_act 15 = .ok (.iload_n 1, 1) := by decide +kernel
theorem dX11_act_16 : decode cX11_act 16 = .ok (.iload_n 2, 1) := by decide +kernel
theorem dX11_act_17 : decode cX11_act 17 = .ok (.iload_n 3, 1) := by decide +kernel
theorem dX11_act_18 : decode cX11_act 18 = .ok (.iload 4, 2) := by decide +kernel
theorem dX11_act_20 : decode cX11_act 20 = .ok (.iload 5, 2) := by decide +kernel
theorem dX11_act_22 : decode cX11_act 22 = .ok (.iconst 1, 1) := by decide +kernel
theorem dX11_act_23 : decode cX11_act 23 = .ok (.invokevirtual 135, 3) := by decide +kernel
theorem dX11_act_26 : decode cX11_act 26 = .ok (.goto 4, 3) := by decide +kernel
theorem dX11_act_29 : decode cX11_act 29 = .ok (.iconst (-1), 1) := by decide +kernel
theorem dX11_act_30 : decode cX11_act 30 = .ok (.ireturn, 1) := by decide +kernel
theorem dX11_both_0 : decode cX11_both 0 = .ok (.aload_n 0, 1) := by decide +kernel
theorem dX11_both_1 : decode cX11_both 1 = .ok (.iload_n 1, 1) := by decide +kernel
theorem dX11_both_2 : decode cX11_both 2 = .ok (.invokevirtual 139, 3) := by decide +kernel
theorem dX11_both_5 : decode cX11_both 5 = .ok (.ifCond .eq 39, 3) := by decide +kernel
theorem dX11_both_8 : decode cX11_both 8 = .ok (.aload_n 0, 1) := by decide +kernel
theorem dX11_both_9 : decode cX11_both 9 = .ok (.iload_n 2, 1) := by decide +kernel
theorem dX11_both_10 : decode cX11_both 10 = .ok (.invokevirtual 139, 3) := by decide +kernel
theorem dX11_both_13 : decode cX11_both 13 = .ok (.ifCond .eq 31, 3) := by decide +kernel
theorem dX11_both_16 : decode cX11_both 16 = .ok (.aload_n 0, 1) := by decide +kernel
theorem dX11_both_17 : decode cX11_both 17 = .ok (.iconst 1, 1) := by decide +kernel
theorem dX11_both_18 : decode cX11_both 18 = .ok (.iconst 0, 1) := by decide +kernel
theorem dX11_both_19 : decode cX11_both 19 = .ok (.iload_n 1, 1) := by decide +kernel
theorem dX11_both_20 : decode cX11_both 20 = .ok (.iload_n 2, 1) := by decide +kernel
theorem dX11_both_21 : decode cX11_both 21 = .ok (.iconst 0, 1) := by decide +kernel
theorem dX11_both_22 : decode cX11_both 22 = .ok (.iconst 0, 1) := by decide +kernel
theorem dX11_both_23 : decode cX11_both 23 = .ok (.iconst 1, 1) := by decide +kernel
theorem dX11_both_24 : decode cX11_both 24 = .ok (.aload_n 0, 1) := by decide +kernel
theorem dX11_both_25 : decode cX11_both 25 = .ok (.getfield 50, 3) := by decide +kernel
theorem dX11_both_28 : decode cX11_both 28 = .ok (.iload_n 1, 1) := by decide +kernel
theorem dX11_both_29 : decode cX11_both 29 = .ok (.iaload, 1) := by decide +kernel
theorem dX11_both_30 : decode cX11_both 30 = .ok (.iadd, 1) := by decide +kernel
theorem dX11_both_31 : decode cX11_both 31 = .ok (.aload_n 0, 1) := by decide +kernel
theorem dX11_both_32 : decode cX11_both 32 = .ok (.getfield 50, 3) := by decide +kernel
theorem dX11_both_35 : decode cX11_both 35 = .ok (.iload_n 2, 1) := by decide +kernel
theorem dX11_both_36 : decode cX11_both 36 = .ok (.iaload, 1) := by decide +kernel
theorem dX11_both_37 : decode cX11_both 37 = .ok (.iadd, 1) := by decide +kernel
theorem dX11_both_38 : decode cX11_both 38 = .ok (.invokevirtual 135, 3) := by decide +kernel
theorem dX11_both_41 : decode cX11_both 41 = .ok (.goto 4, 3) := by decide +kernel
theorem dX11_both_44 : decode cX11_both 44 = .ok (.iconst (-1), 1) := by decide +kernel
theorem dX11_both_45 : decode cX11_both 45 = .ok (.ireturn, 1) := by decide +kernel
theorem dX11_choice_0 : decode cX11_choice 0 = .ok (.iload_n 1, 1) := by decide +kernel
theorem dX11_choice_1 : decode cX11_choice 1 = .ok (.invokestatic 124, 3) := by decide +kernel
theorem dX11_choice_4 : decode cX11_choice 4 = .ok (.ifCond .eq 34, 3) := by decide +kernel
theorem dX11_choice_7 : decode cX11_choice 7 = .ok (.iload_n 2, 1) := by decide +kernel
theorem dX11_choice_8 : decode cX11_choice 8 = .ok (.iconst 0, 1) := by decide +kernel
theorem dX11_choice_9 : decode cX11_choice 9 = .ok (.bipush 9, 2) := by decide +kernel
theorem dX11_choice_11 : decode cX11_choice 11 = .ok (.invokestatic 103, 3) := by decide +kernel
theorem dX11_choice_14 : decode cX11_choice 14 = .ok (.ifCond .eq 24, 3) := by decide +kernel
theorem dX11_choice_17 : decode cX11_choice 17 = .ok (.aload_n 0, 1) := by decide +kernel
theorem dX11_choice_18 : decode cX11_choice 18 = .ok (.iload_n 3, 1) := by decide +kernel
theorem dX11_choice_19 : decode cX11_choice 19 = .ok (.invokevirtual 139, 3) := by decide +kernel
theorem dX11_choice_22 : decode cX11_choice 22 = .ok (.ifCond .eq 16, 3) := by decide +kernel
theorem dX11_choice_25 : decode cX11_choice 25 = .ok (.aload_n 0, 1) := by decide +kernel
theorem dX11_choice_26 : decode cX11_choice 26 = .ok (.iload 4, 2) := by decide +kernel
theorem dX11_choice_28 : decode cX11_choice 28 = .ok (.invokevirtual 139, 3) := by decide +kernel
theorem dX11_choice_31 : decode cX11_choice 31 = .ok (.ifCond .eq 7, 3) := by decide +kernel
theorem dX11_choice_34 : decode cX11_choice 34 = .ok (.iconst 1, 1) := by decide +kernel
theorem dX11_choice_35 : decode cX11_choice 35 = .ok (.goto 4, 3) := by decide +kernel
theorem dX11_choice_38 : decode cX11_choice 38 = .ok (.iconst 0, 1) := by decide +kernel
theorem dX11_choice_39 : decode cX11_choice 39 = .ok (.istore 5, 2) := by decide +kernel
theorem dX11_choice_41 : decode cX11_choice 41 = .ok (.iload 5, 2) := by decide +kernel
theorem dX11_choice_43 : decode cX11_choice 43 = .ok (.ifCond .eq 33, 3) := by decide +kernel
theorem dX11_choice_46 : decode cX11_choice 46 = .ok (.aload_n 0, 1) := by decide +kernel
theorem dX11_choice_47 : decode cX11_choice 47 = .ok (.iconst 2, 1) := by decide +kernel
theorem dX11_choice_48 : decode cX11_choice 48 = .ok (.iconst 0, 1) := by decide +kernel
theorem dX11_choice_49 : decode cX11_choice 49 = .ok (.iload_n 1, 1) := by decide +kernel
theorem dX11_choice_50 : decode cX11_choice 50 = .ok (.iload_n 2, 1) := by decide +kernel
theorem dX11_choice_51 : decode cX11_choice 51 = .ok (.iload_n 3, 1) := by decide +kernel
theorem dX11_choice_52 : decode cX11_choice 52 = .ok (.iload 4, 2) := by decide +kernel
theorem dX11_choice_54 : decode cX11_choice 54 = .ok (.iconst 1, 1) := by decide +kernel
theorem dX11_choice_55 : decode cX11_choice 55 = .ok (.aload_n 0, 1) := by decide +kernel
theorem dX11_choice_56 : decode cX11_choice 56 = .ok (.getfield 50, 3) := by decide +kernel
theorem dX11_choice_59 : decode cX11_choice 59 = .ok (.iload_n 3, 1) := by decide +kernel
theorem dX11_choice_60 : decode cX11_choice 60 = .ok (.iaload, 1) := by decide +kernel
theorem dX11_choice_61 : decode cX11_choice 61 = .ok (.iadd, 1) := by decide +kernel
theorem dX11_choice_62 : decode cX11_choice 62 = .ok (.aload_n 0, 1) := by decide +kernel
theorem dX11_choice_63 : decode cX11_choice 63 = .ok (.getfield 50, 3) := by decide +kernel
theorem dX11_choice_66 : decode cX11_choice 66 = .ok (.iload 4, 2) := by decide +kernel
theorem dX11_choice_68 : decode cX11_choice 68 = .ok (.iaload, 1) := by decide +kernel
theorem dX11_choice_69 : decode cX11_choice 69 = .ok (.iadd, 1) := by decide +kernel
theorem dX11_choice_70 : decode cX11_choice 70 = .ok (.invokevirtual 135, 3) := by decide +kernel
theorem dX11_choice_73 : decode cX11_choice 73 = .ok (.goto 4, 3) := by decide +kernel
theorem dX11_choice_76 : decode cX11_choice 76 = .ok (.iconst (-1), 1) := by decide +kernel
theorem dX11_choice_77 : decode cX11_choice 77 = .ok (.ireturn, 1) := by decide +kernel
theorem dX11_guard_0 : decode cX11_guard 0 = .ok (.aload_n 0, 1) := by decide +kernel
theorem dX11_guard_1 : decode cX11_guard 1 = .ok (.iload_n 1, 1) := by decide +kernel
theorem dX11_guard_2 : decode cX11_guard 2 = .ok (.invokevirtual 139, 3) := by decide +kernel
theorem dX11_guard_5 : decode cX11_guard 5 = .ok (.ifCond .eq 35, 3) := by decide +kernel
theorem dX11_guard_8 : decode cX11_guard 8 = .ok (.iload_n 3, 1) := by decide +kernel
theorem dX11_guard_9 : decode cX11_guard 9 = .ok (.iconst (-1), 1) := by decide +kernel
theorem dX11_guard_10 : decode cX11_guard 10 = .ok (.if_icmp .eq 11, 3) := by decide +kernel
theorem dX11_guard_13 : decode cX11_guard 13 = .ok (.aload_n 0, 1) := by decide +kernel
theorem dX11_guard_14 : decode cX11_guard 14 = .ok (.iload_n 3, 1) := by decide +kernel
theorem dX11_guard_15 : decode cX11_guard 15 = .ok (.invokevirtual 139, 3) := by decide +kernel
theorem dX11_guard_18 : decode cX11_guard 18 = .ok (.ifCond .eq 22, 3) := by decide +kernel
theorem dX11_guard_21 : decode cX11_guard 21 = .ok (.iload 4, 2) := by decide +kernel
theorem dX11_guard_23 : decode cX11_guard 23 = .ok (.iconst (-1), 1) := by decide +kernel
theorem dX11_guard_24 : decode cX11_guard 24 = .ok (.if_icmp .eq 12, 3) := by decide +kernel
theorem dX11_guard_27 : decode cX11_guard 27 = .ok (.aload_n 0, 1) := by decide +kernel
theorem dX11_guard_28 : decode cX11_guard 28 = .ok (.iload 4, 2) := by decide +kernel
theorem dX11_guard_30 : decode cX11_guard 30 = .ok (.invokevirtual 139, 3) := by decide +kernel
theorem dX11_guard_33 : decode cX11_guard 33 = .ok (.ifCond .eq 7, 3) := by decide +kernel
theorem dX11_guard_36 : decode cX11_guard 36 = .ok (.iconst 1, 1) := by decide +kernel
theorem dX11_guard_37 : decode cX11_guard 37 = .ok (.goto 4, 3) := by decide +kernel
theorem dX11_guard_40 : decode cX11_guard 40 = .ok (.iconst 0, 1) := by decide +kernel
theorem dX11_guard_41 : decode cX11_guard 41 = .ok (.istore 5, 2) := by decide +kernel
theorem dX11_guard_43 : decode cX11_guard 43 = .ok (.iload 5, 2) := by decide +kernel
theorem dX11_guard_45 : decode cX11_guard 45 = .ok (.ifCond .ne 5, 3) := by decide +kernel
theorem dX11_guard_48 : decode cX11_guard 48 = .ok (.iconst (-1), 1) := by decide +kernel
theorem dX11_guard_49 : decode cX11_guard 49 = .ok (.ireturn, 1) := by decide +kernel
theorem dX11_guard_50 : decode cX11_guard 50 = .ok (.iconst 1, 1) := by decide +kernel
theorem dX11_guard_51 : decode cX11_guard 51 = .ok (.aload_n 0, 1) := by decide +kernel
theorem dX11_guard_52 : decode cX11_guard 52 = .ok (.getfield 50, 3) := by decide +kernel
theorem dX11_guard_55 : decode cX11_guard 55 = .ok (.iload_n 1, 1) := by decide +kernel
theorem dX11_guard_56 : decode cX11_guard 56 = .ok (.iaload, 1) := by decide +kernel
theorem dX11_guard_57 : decode cX11_guard 57 = .ok (.iadd, 1) := by decide +kernel
theorem dX11_guard_58 : decode cX11_guard 58 = .ok (.iload_n 3, 1) := by decide +kernel
theorem dX11_guard_59 : decode cX11_guard 59 = .ok (.ifCond .ge 7, 3) := by decide +kernel
theorem dX11_guard_62 : decode cX11_guard 62 = .ok (.iconst 0, 1) := by decide +kernel
theorem dX11_guard_63 : decode cX11_guard 63 = .ok (.goto 9, 3) := by decide +kernel
theorem dX11_guard_66 : decode cX11_guard 66 = .ok (.aload_n 0, 1) := by decide +kernel
theorem dX11_guard_67 : decode cX11_guard 67 = .ok (.getfield 50, 3) := by decide +kernel
theorem dX11_guard_70 : decode cX11_guard 70 = .ok (.iload_n 3, 1) := by decide +kernel
theorem dX11_guard_71 : decode cX11_guard 71 = .ok (.iaload, 1) := by decide +kernel
theorem dX11_guard_72 : decode cX11_guard 72 = .ok (.iadd, 1) := by decide +kernel
theorem dX11_guard_73 : decode cX11_guard 73 = .ok (.iload 4, 2) := by decide +kernel
theorem dX11_guard_75 : decode cX11_guard 75 = .ok (.ifCond .ge 7, 3) := by decide +kernel
theorem dX11_guard_78 : decode cX11_guard 78 = .ok (.iconst 0, 1) := by decide +kernel
theorem dX11_guard_79 : decode cX11_guard 79 = .ok (.goto 13, 3) := by decide +kernel
theorem dX11_guard_82 : decode cX11_guard 82 = .ok (.bipush 9, 2) := by decide +kernel
theorem dX11_guard_84 : decode cX11_guard 84 = .ok (.aload_n 0, 1) := by decide +kernel
theorem dX11_guard_85 : decode cX11_guard 85 = .ok (.getfield 50, 3) := by decide +kernel
theorem dX11_guard_88 : decode cX11_guard 88 = .ok (.iload 4, 2) := by decide +kernel
theorem dX11_guard_90 : decode cX11_guard 90 = .ok (.iaload, 1) := by decide +kernel
theorem dX11_guard_91 : decode cX11_guard 91 = .ok (.imul, 1) := by decide +kernel
theorem dX11_guard_92 : decode cX11_guard 92 = .ok (.iadd, 1) := by decide +kernel
theorem dX11_guard_93 : decode cX11_guard 93 = .ok (.istore 6, 2) := by decide +kernel
theorem dX11_guard_95 : decode cX11_guard 95 = .ok (.aload_n 0, 1) := by decide +kernel
theorem dX11_guard_96 : decode cX11_guard 96 = .ok (.iconst 3, 1) := by decide +kernel
theorem dX11_guard_97 : decode cX11_guard 97 = .ok (.iconst 0, 1) := by decide +kernel
theorem dX11_guard_98 : decode cX11_guard 98 = .ok (.iload_n 1, 1) := by decide +kernel
theorem dX11_guard_99 : decode cX11_guard 99 = .ok (.iload_n 2, 1) := by decide +kernel
theorem dX11_guard_100 : decode cX11_guard 100 = .ok (.sipush 510, 3) := by decide +kernel
theorem dX11_guard_103 : decode cX11_guard 103 = .ok (.iand, 1) := by decide +kernel
theorem dX11_guard_104 : decode cX11_guard 104 = .ok (.iload_n 3, 1) := by decide +kernel
theorem dX11_guard_105 : decode cX11_guard 105 = .ok (.iload 4, 2) := by decide +kernel
theorem dX11_guard_107 : decode cX11_guard 107 = .ok (.iload 6, 2) := by decide +kernel
theorem dX11_guard_109 : decode cX11_guard 109 = .ok (.invokevirtual 135, 3) := by decide +kernel
theorem dX11_guard_112 : decode cX11_guard 112 = .ok (.ireturn, 1) := by decide +kernel
theorem dX11_forget_0 : decode cX11_forget 0 = .ok (.aload_n 0, 1) := by decide +kernel
theorem dX11_forget_1 : decode cX11_forget 1 = .ok (.getfield 121, 3) := by decide +kernel
theorem dX11_forget_4 : decode cX11_forget 4 = .ok (.istore_n 1, 1) := by decide +kernel
theorem dX11_forget_5 : decode cX11_forget 5 = .ok (.aload_n 0, 1) := by decide +kernel
theorem dX11_forget_6 : decode cX11_forget 6 = .ok (.iconst 0, 1) := by decide +kernel
theorem dX11_forget_7 : decode cX11_forget 7 = .ok (.putfield 121, 3) := by decide +kernel
theorem dX11_forget_10 : decode cX11_forget 10 = .ok (.aload_n 0, 1) := by decide +kernel
theorem dX11_forget_11 : decode cX11_forget 11 = .ok (.iconst 0, 1) := by decide +kernel
theorem dX11_forget_12 : decode cX11_forget 12 = .ok (.putfield 142, 3) := by decide +kernel
theorem dX11_forget_15 : decode cX11_forget 15 = .ok (.iload_n 1, 1) := by decide +kernel
theorem dX11_forget_16 : decode cX11_forget 16 = .ok (.ireturn, 1) := by decide +kernel
theorem dX11_as_0 : decode cX11_as 0 = .ok (.aload_n 0, 1) := by decide +kernel
theorem dX11_as_1 : decode cX11_as 1 = .ok (.getfield 26, 3) := by decide +kernel
theorem dX11_as_4 : decode cX11_as 4 = .ok (.iload_n 1, 1) := by decide +kernel
theorem dX11_as_5 : decode cX11_as 5 = .ok (.iaload, 1) := by decide +kernel
theorem dX11_as_6 : decode cX11_as 6 = .ok (.ifCond .eq 21, 3) := by decide +kernel
theorem dX11_as_9 : decode cX11_as 9 = .ok (.aload_n 0, 1) := by decide +kernel
theorem dX11_as_10 : decode cX11_as 10 = .ok (.aload_n 0, 1) := by decide +kernel
theorem dX11_as_11 : decode cX11_as 11 = .ok (.getfield 26, 3) := by decide +kernel
theorem dX11_as_14 : decode cX11_as 14 = .ok (.iload_n 1, 1) := by decide +kernel
theorem dX11_as_15 : decode cX11_as 15 = .ok (.iaload, 1) := by decide +kernel
theorem dX11_as_16 : decode cX11_as 16 = .ok (.iload_n 2, 1) := by decide +kernel
theorem dX11_as_17 : decode cX11_as 17 = .ok (.invokevirtual 146, 3) := by decide +kernel
theorem dX11_as_20 : decode cX11_as 20 = .ok (.ifCond .ne 7, 3) := by decide +kernel
theorem dX11_as_23 : decode cX11_as 23 = .ok (.iconst 2, 1) := by decide +kernel
theorem dX11_as_24 : decode cX11_as 24 = .ok (.goto 4, 3) := by decide +kernel
theorem dX11_as_27 : decode cX11_as 27 = .ok (.iconst 0, 1) := by decide +kernel
theorem dX11_as_28 : decode cX11_as 28 = .ok (.ireturn, 1) := by decide +kernel
theorem dX11_row_0 : decode cX11_row 0 = .ok (.aload_n 0, 1) := by decide +kernel
theorem dX11_row_1 : decode cX11_row 1 = .ok (.iload_n 1, 1) := by decide +kernel
theorem dX11_row_2 : decode cX11_row 2 = .ok (.iload_n 2, 1) := by decide +kernel
theorem dX11_row_3 : decode cX11_row 3 = .ok (.invokevirtual 150, 3) := by decide +kernel
theorem dX11_row_6 : decode cX11_row 6 = .ok (.ifCond .eq 7, 3) := by decide +kernel
theorem dX11_row_9 : decode cX11_row 9 = .ok (.iconst 2, 1) := by decide +kernel
theorem dX11_row_10 : decode cX11_row 10 = .ok (.goto 17, 3) := by decide +kernel
theorem dX11_row_13 : decode cX11_row 13 = .ok (.aload_n 0, 1) := by decide +kernel
theorem dX11_row_14 : decode cX11_row 14 = .ok (.getfield 26, 3) := by decide +kernel
theorem dX11_row_17 : decode cX11_row 17 = .ok (.iload_n 1, 1) := by decide +kernel
theorem dX11_row_18 : decode cX11_row 18 = .ok (.iaload, 1) := by decide +kernel
theorem dX11_row_19 : decode cX11_row 19 = .ok (.ifCond .ne 7, 3) := by decide +kernel
theorem dX11_row_22 : decode cX11_row 22 = .ok (.iconst 1, 1) := by decide +kernel
theorem dX11_row_23 : decode cX11_row 23 = .ok (.goto 4, 3) := by decide +kernel
theorem dX11_row_26 : decode cX11_row 26 = .ok (.iconst 0, 1) := by decide +kernel
theorem dX11_row_27 : decode cX11_row 27 = .ok (.ireturn, 1) := by decide +kernel
theorem dX11_itemOf_0 : decode cX11_itemOf 0 = .ok (.aload_n 0, 1) := by decide +kernel
theorem dX11_itemOf_1 : decode cX11_itemOf 1 = .ok (.iload_n 1, 1) := by decide +kernel
theorem dX11_itemOf_2 : decode cX11_itemOf 2 = .ok (.iload_n 2, 1) := by decide +kernel
theorem dX11_itemOf_3 : decode cX11_itemOf 3 = .ok (.invokevirtual 154, 3) := by decide +kernel
theorem dX11_itemOf_6 : decode cX11_itemOf 6 = .ok (.istore 4, 2) := by decide +kernel
theorem dX11_itemOf_8 : decode cX11_itemOf 8 = .ok (.iload 4, 2) := by decide +kernel
theorem dX11_itemOf_10 : decode cX11_itemOf 10 = .ok (.ifCond .eq 8, 3) := by decide +kernel
theorem dX11_itemOf_13 : decode cX11_itemOf 13 = .ok (.iload 4, 2) := by decide +kernel
theorem dX11_itemOf_15 : decode cX11_itemOf 15 = .ok (.goto 29, 3) := by decide +kernel
theorem dX11_itemOf_18 : decode cX11_itemOf 18 = .ok (.iload_n 3, 1) := by decide +kernel
theorem dX11_itemOf_19 : decode cX11_itemOf 19 = .ok (.iconst 0, 1) := by decide +kernel
theorem dX11_itemOf_20 : decode cX11_itemOf 20 = .ok (.aload_n 0, 1) := by decide +kernel
theorem dX11_itemOf_21 : decode cX11_itemOf 21 = .ok (.getfield 16, 3) := by decide +kernel
theorem dX11_itemOf_24 : decode cX11_itemOf 24 = .ok (.aload_n 0, 1) := by decide +kernel
theorem dX11_itemOf_25 : decode cX11_itemOf 25 = .ok (.getfield 26, 3) := by decide +kernel
theorem dX11_itemOf_28 : decode cX11_itemOf 28 = .ok (.iload_n 1, 1) := by decide +kernel
theorem dX11_itemOf_29 : decode cX11_itemOf 29 = .ok (.iaload, 1) := by decide +kernel
theorem dX11_itemOf_30 : decode cX11_itemOf 30 = .ok (.iaload, 1) := by decide +kernel
theorem dX11_itemOf_31 : decode cX11_itemOf 31 = .ok (.iconst 1, 1) := by decide +kernel
theorem dX11_itemOf_32 : decode cX11_itemOf 32 = .ok (.isub, 1) := by decide +kernel
theorem dX11_itemOf_33 : decode cX11_itemOf 33 = .ok (.invokestatic 103, 3) := by decide +kernel
theorem dX11_itemOf_36 : decode cX11_itemOf 36 = .ok (.ifCond .eq 7, 3) := by decide +kernel
theorem dX11_itemOf_39 : decode cX11_itemOf 39 = .ok (.iconst 0, 1) := by decide +kernel
theorem dX11_itemOf_40 : decode cX11_itemOf 40 = .ok (.goto 4, 3) := by decide +kernel
theorem dX11_itemOf_43 : decode cX11_itemOf 43 = .ok (.iconst 3, 1) := by decide +kernel
theorem dX11_itemOf_44 : decode cX11_itemOf 44 = .ok (.ireturn, 1) := by decide +kernel
theorem dX11_make_0 : decode cX11_make 0 = .ok (.iload_n 3, 1) := by decide +kernel
theorem dX11_make_1 : decode cX11_make 1 = .ok (.ifCond .ge 5, 3) := by decide +kernel
theorem dX11_make_4 : decode cX11_make 4 = .ok (.iconst 4, 1) := by decide +kernel
theorem dX11_make_5 : decode cX11_make 5 = .ok (.ireturn, 1) := by decide +kernel
theorem dX11_make_6 : decode cX11_make 6 = .ok (.aload_n 0, 1) := by decide +kernel
theorem dX11_make_7 : decode cX11_make 7 = .ok (.lconst 1, 1) := by decide +kernel
theorem dX11_make_8 : decode cX11_make 8 = .ok (.iload_n 3, 1) := by decide +kernel
theorem dX11_make_9 : decode cX11_make 9 = .ok (.i2l, 1) := by decide +kernel
theorem dX11_make_10 : decode cX11_make 10 = .ok (.invokevirtual 157, 3) := by decide +kernel
theorem dX11_make_13 : decode cX11_make 13 = .ok (.ifCond .ne 6, 3) := by decide +kernel
theorem dX11_make_16 : decode cX11_make 16 = .ok (.bipush 8, 2) := by decide +kernel
theorem dX11_make_18 : decode cX11_make 18 = .ok (.ireturn, 1) := by decide +kernel
theorem dX11_make_19 : decode cX11_make 19 = .ok (.aload_n 0, 1) := by decide +kernel
theorem dX11_make_20 : decode cX11_make 20 = .ok (.getfield 26, 3) := by decide +kernel
theorem dX11_make_23 : decode cX11_make 23 = .ok (.iload_n 1, 1) := by decide +kernel
theorem dX11_make_24 : decode cX11_make 24 = .ok (.aload_n 0, 1) := by decide +kernel
theorem dX11_make_25 : decode cX11_make 25 = .ok (.iload_n 2, 1) := by decide +kernel
theorem dX11_make_26 : decode cX11_make 26 = .ok (.iload_n 3, 1) := by decide +kernel
theorem dX11_make_27 : decode cX11_make 27 = .ok (.invokevirtual 161, 3) := by decide +kernel
theorem dX11_make_30 : decode cX11_make 30 = .ok (.iastore, 1) := by decide +kernel
theorem dX11_make_31 : decode cX11_make 31 = .ok (.iconst 0, 1) := by decide +kernel
theorem dX11_make_32 : decode cX11_make 32 = .ok (.ireturn, 1) := by decide +kernel
theorem dX11_deep_0 : decode cX11_deep 0 = .ok (.iload_n 2, 1) := by decide +kernel
theorem dX11_deep_1 : decode cX11_deep 1 = .ok (.ifCond .lt 7, 3) := by decide +kernel
theorem dX11_deep_4 : decode cX11_deep 4 = .ok (.iload_n 3, 1) := by decide +kernel
theorem dX11_deep_5 : decode cX11_deep 5 = .ok (.ifCond .ge 5, 3) := by decide +kernel
theorem dX11_deep_8 : decode cX11_deep 8 = .ok (.iconst 4, 1) := by decide +kernel
theorem dX11_deep_9 : decode cX11_deep 9 = .ok (.ireturn, 1) := by decide +kernel
theorem dX11_deep_10 : decode cX11_deep 10 = .ok (.aload_n 0, 1) := by decide +kernel
theorem dX11_deep_11 : decode cX11_deep 11 = .ok (.lconst 1, 1) := by decide +kernel
theorem dX11_deep_12 : decode cX11_deep 12 = .ok (.iload_n 2, 1) := by decide +kernel
theorem dX11_deep_13 : decode cX11_deep 13 = .ok (.i2l, 1) := by decide +kernel
theorem dX11_deep_14 : decode cX11_deep 14 = .ok (.ladd, 1) := by decide +kernel
theorem dX11_deep_15 : decode cX11_deep 15 = .ok (.iload_n 2, 1) := by decide +kernel
theorem dX11_deep_16 : decode cX11_deep 16 = .ok (.i2l, 1) := by decide +kernel
theorem dX11_deep_17 : decode cX11_deep 17 = .ok (.iload_n 2, 1) := by decide +kernel
theorem dX11_deep_18 : decode cX11_deep 18 = .ok (.i2l, 1) := by decide +kernel
theorem dX11_deep_19 : decode cX11_deep 19 = .ok (.iload_n 3, 1) := by decide +kernel
theorem dX11_deep_20 : decode cX11_deep 20 = .ok (.i2l, 1) := by decide +kernel
theorem dX11_deep_21 : decode cX11_deep 21 = .ok (.lmul, 1) := by decide +kernel
theorem dX11_deep_22 : decode cX11_deep 22 = .ok (.ladd, 1) := by decide +kernel
theorem dX11_deep_23 : decode cX11_deep 23 = .ok (.invokevirtual 157, 3) := by decide +kernel
theorem dX11_deep_26 : decode cX11_deep 26 = .ok (.ifCond .ne 6, 3) := by decide +kernel
theorem dX11_deep_29 : decode cX11_deep 29 = .ok (.bipush 8, 2) := by decide +kernel
theorem dX11_deep_31 : decode cX11_deep 31 = .ok (.ireturn, 1) := by decide +kernel
theorem dX11_deep_32 : decode cX11_deep 32 = .ok (.aload_n 0, 1) := by decide +kernel
theorem dX11_deep_33 : decode cX11_deep 33 = .ok (.iconst 5, 1) := by decide +kernel
theorem dX11_deep_34 : decode cX11_deep 34 = .ok (.iload_n 2, 1) := by decide +kernel
theorem dX11_deep_35 : decode cX11_deep 35 = .ok (.invokevirtual 161, 3) := by decide +kernel
theorem dX11_deep_38 : decode cX11_deep 38 = .ok (.istore 4, 2) := by decide +kernel
theorem dX11_deep_40 : decode cX11_deep 40 = .ok (.iconst 0, 1) := by decide +kernel
theorem dX11_deep_41 : decode cX11_deep 41 = .ok (.istore 5, 2) := by decide +kernel
theorem dX11_deep_43 : decode cX11_deep 43 = .ok (.iload 5, 2) := by decide +kernel
theorem dX11_deep_45 : decode cX11_deep 45 = .ok (.iload_n 2, 1) := by decide +kernel
theorem dX11_deep_46 : decode cX11_deep 46 = .ok (.if_icmp .ge 31, 3) := by decide +kernel
theorem dX11_deep_49 : decode cX11_deep 49 = .ok (.aload_n 0, 1) := by decide +kernel
theorem dX11_deep_50 : decode cX11_deep 50 = .ok (.getfield 22, 3) := by decide +kernel
theorem dX11_deep_53 : decode cX11_deep 53 = .ok (.aload_n 0, 1) := by decide +kernel
theorem dX11_deep_54 : decode cX11_deep 54 = .ok (.getfield 13, 3) := by decide +kernel
theorem dX11_deep_57 : decode cX11_deep 57 = .ok (.iload 4, 2) := by decide +kernel
theorem dX11_deep_59 : decode cX11_deep 59 = .ok (.iaload, 1) := by decide +kernel
theorem dX11_deep_60 : decode cX11_deep 60 = .ok (.iload 5, 2) := by decide +kernel
theorem dX11_deep_62 : decode cX11_deep 62 = .ok (.iadd, 1) := by decide +kernel
theorem dX11_deep_63 : decode cX11_deep 63 = .ok (.aload_n 0, 1) := by decide +kernel
theorem dX11_deep_64 : decode cX11_deep 64 = .ok (.iconst 1, 1) := by decide +kernel
theorem dX11_deep_65 : decode cX11_deep 65 = .ok (.iload_n 3, 1) := by decide +kernel
theorem dX11_deep_66 : decode cX11_deep 66 = .ok (.invokevirtual 161, 3) := by decide +kernel
theorem dX11_deep_69 : decode cX11_deep 69 = .ok (.i2l, 1) := by decide +kernel
theorem dX11_deep_70 : decode cX11_deep 70 = .ok (.lastore, 1) := by decide +kernel
theorem dX11_deep_71 : decode cX11_deep 71 = .ok (.iinc 5 1, 3) := by decide +kernel
theorem dX11_deep_74 : decode cX11_deep 74 = .ok (.goto (-31), 3) := by decide +kernel
theorem dX11_deep_77 : decode cX11_deep 77 = .ok (.aload_n 0, 1) := by decide +kernel
theorem dX11_deep_78 : decode cX11_deep 78 = .ok (.getfield 26, 3) := by decide +kernel
theorem dX11_deep_81 : decode cX11_deep 81 = .ok (.iload_n 1, 1) := by decide +kernel
theorem dX11_deep_82 : decode cX11_deep 82 = .ok (.iload 4, 2) := by decide +kernel
theorem dX11_deep_84 : decode cX11_deep 84 = .ok (.iastore, 1) := by decide +kernel
theorem dX11_deep_85 : decode cX11_deep 85 = .ok (.iconst 0, 1) := by decide +kernel
theorem dX11_deep_86 : decode cX11_deep 86 = .ok (.ireturn, 1) := by decide +kernel
theorem dX11_figure_0 : decode cX11_figure 0 = .ok (.aload_n 0, 1) := by decide +kernel
theorem dX11_figure_1 : decode cX11_figure 1 = .ok (.lconst 1, 1) := by decide +kernel
theorem dX11_figure_2 : decode cX11_figure 2 = .ok (.lconst 0, 1) := by decide +kernel
theorem dX11_figure_3 : decode cX11_figure 3 = .ok (.invokevirtual 157, 3) := by decide +kernel
theorem dX11_figure_6 : decode cX11_figure 6 = .ok (.ifCond .ne 6, 3) := by decide +kernel
theorem dX11_figure_9 : decode cX11_figure 9 = .ok (.bipush 8, 2) := by decide +kernel
theorem dX11_figure_11 : decode cX11_figure 11 = .ok (.ireturn, 1) := by decide +kernel
theorem dX11_figure_12 : decode cX11_figure 12 = .ok (.aload_n 0, 1) := by decide +kernel
theorem dX11_figure_13 : decode cX11_figure 13 = .ok (.getfield 26, 3) := by decide +kernel
theorem dX11_figure_16 : decode cX11_figure 16 = .ok (.iload_n 1, 1) := by decide +kernel
theorem dX11_figure_17 : decode cX11_figure 17 = .ok (.aload_n 0, 1) := by decide +kernel
theorem dX11_figure_18 : decode cX11_figure 18 = .ok (.iload_n 2, 1) := by decide +kernel
theorem dX11_figure_19 : decode cX11_figure 19 = .ok (.iconst 0, 1) := by decide +kernel
theorem dX11_figure_20 : decode cX11_figure 20 = .ok (.invokevirtual 161, 3) := by decide +kernel
theorem dX11_figure_23 : decode cX11_figure 23 = .ok (.iastore, 1) := by decide +kernel
theorem dX11_figure_24 : decode cX11_figure 24 = .ok (.aload_n 0, 1) := by decide +kernel
theorem dX11_figure_25 : decode cX11_figure 25 = .ok (.getfield 19, 3) := by decide +kernel
theorem dX11_figure_28 : decode cX11_figure 28 = .ok (.aload_n 0, 1) := by decide +kernel
theorem dX11_figure_29 : decode cX11_figure 29 = .ok (.getfield 26, 3) := by decide +kernel
theorem dX11_figure_32 : decode cX11_figure 32 = .ok (.iload_n 1, 1) := by decide +kernel
theorem dX11_figure_33 : decode cX11_figure 33 = .ok (.iaload, 1) := by decide +kernel
theorem dX11_figure_34 : decode cX11_figure 34 = .ok (.iload_n 3, 1) := by decide +kernel
theorem dX11_figure_35 : decode cX11_figure 35 = .ok (.iastore, 1) := by decide +kernel
theorem dX11_figure_36 : decode cX11_figure 36 = .ok (.iconst 0, 1) := by decide +kernel
theorem dX11_figure_37 : decode cX11_figure 37 = .ok (.ireturn, 1) := by decide +kernel
theorem dX11_told_0 : decode cX11_told 0 = .ok (.lload_n 1, 1) := by decide +kernel
theorem dX11_told_1 : decode cX11_told 1 = .ok (.bipush 52, 2) := by decide +kernel
theorem dX11_told_3 : decode cX11_told 3 = .ok (.lshr, 1) := by decide +kernel
theorem dX11_told_4 : decode cX11_told 4 = .ok (.ldc2_w 164, 3) := by decide +kernel
theorem dX11_told_7 : decode cX11_told 7 = .ok (.land, 1) := by decide +kernel
theorem dX11_told_8 : decode cX11_told 8 = .ok (.ldc2_w 164, 3) := by decide +kernel
theorem dX11_told_11 : decode cX11_told 11 = .ok (.lcmp, 1) := by decide +kernel
theorem dX11_told_12 : decode cX11_told 12 = .ok (.ifCond .ne 17, 3) := by decide +kernel
theorem dX11_told_15 : decode cX11_told 15 = .ok (.lload_n 1, 1) := by decide +kernel
theorem dX11_told_16 : decode cX11_told 16 = .ok (.ldc2_w 166, 3) := by decide +kernel
theorem dX11_told_19 : decode cX11_told 19 = .ok (.land, 1) := by decide +kernel
theorem dX11_told_20 : decode cX11_told 20 = .ok (.lconst 0, 1) := by decide +kernel
theorem dX11_told_21 : decode cX11_told 21 = .ok (.lcmp, 1) := by decide +kernel
theorem dX11_told_22 : decode cX11_told 22 = .ok (.ifCond .eq 7, 3) := by decide +kernel
theorem dX11_told_25 : decode cX11_told 25 = .ok (.iconst 1, 1) := by decide +kernel
theorem dX11_told_26 : decode cX11_told 26 = .ok (.goto 4, 3) := by decide +kernel
theorem dX11_told_29 : decode cX11_told 29 = .ok (.iconst 0, 1) := by decide +kernel
theorem dX11_told_30 : decode cX11_told 30 = .ok (.istore_n 3, 1) := by decide +kernel
theorem dX11_told_31 : decode cX11_told 31 = .ok (.iload_n 0, 1) := by decide +kernel
theorem dX11_told_32 : decode cX11_told 32 = .ok (.iconst 1, 1) := by decide +kernel
theorem dX11_told_33 : decode cX11_told 33 = .ok (.if_icmp .ne 9, 3) := by decide +kernel
theorem dX11_told_36 : decode cX11_told 36 = .ok (.lload_n 1, 1) := by decide +kernel
theorem dX11_told_37 : decode cX11_told 37 = .ok (.l2i, 1) := by decide +kernel
theorem dX11_told_38 : decode cX11_told 38 = .ok (.i2l, 1) := by decide +kernel
theorem dX11_told_39 : decode cX11_told 39 = .ok (.goto 31, 3) := by decide +kernel
theorem dX11_told_42 : decode cX11_told 42 = .ok (.iload_n 0, 1) := by decide +kernel
theorem dX11_told_43 : decode cX11_told 43 = .ok (.iconst 2, 1) := by decide +kernel
theorem dX11_told_44 : decode cX11_told 44 = .ok (.if_icmp .ne 10, 3) := by decide +kernel
theorem dX11_told_47 : decode cX11_told 47 = .ok (.lload_n 1, 1) := by decide +kernel
theorem dX11_told_48 : decode cX11_told 48 = .ok (.l2i, 1) := by decide +kernel
theorem dX11_told_49 : decode cX11_told 49 = .ok (.i2b, 1) := by decide +kernel
theorem dX11_told_50 : decode cX11_told 50 = .ok (.i2l, 1) := by decide +kernel
theorem dX11_told_51 : decode cX11_told 51 = .ok (.goto 19, 3) := by decide +kernel
theorem dX11_told_54 : decode cX11_told 54 = .ok (.iload_n 0, 1) := by decide +kernel
theorem dX11_told_55 : decode cX11_told 55 = .ok (.iconst 4, 1) := by decide +kernel
theorem dX11_told_56 : decode cX11_told 56 = .ok (.if_icmp .ne 13, 3) := by decide +kernel
theorem dX11_told_59 : decode cX11_told 59 = .ok (.iload_n 3, 1) := by decide +kernel
theorem dX11_told_60 : decode cX11_told 60 = .ok (.ifCond .eq 9, 3) := by decide +kernel
theorem dX11_told_63 : decode cX11_told 63 = .ok (.ldc2_w 168, 3) := by decide +kernel
theorem dX11_told_66 : decode cX11_told 66 = .ok (.goto 4, 3) := by decide +kernel
theorem dX11_told_69 : decode cX11_told 69 = .ok (.lload_n 1, 1) := by decide +kernel
theorem dX11_told_70 : decode cX11_told 70 = .ok (.lreturn, 1) := by decide +kernel
theorem dX11_lay_0 : decode cX11_lay 0 = .ok (.aload_n 0, 1) := by decide +kernel
theorem dX11_lay_1 : decode cX11_lay 1 = .ok (.iload_n 1, 1) := by decide +kernel
theorem dX11_lay_2 : decode cX11_lay 2 = .ok (.iload_n 2, 1) := by decide +kernel
theorem dX11_lay_3 : decode cX11_lay 3 = .ok (.invokevirtual 150, 3) := by decide +kernel
theorem dX11_lay_6 : decode cX11_lay 6 = .ok (.istore 5, 2) := by decide +kernel
theorem dX11_lay_8 : decode cX11_lay 8 = .ok (.iload 5, 2) := by decide +kernel
theorem dX11_lay_10 : decode cX11_lay 10 = .ok (.ifCond .eq 8, 3) := by decide +kernel
theorem dX11_lay_13 : decode cX11_lay 13 = .ok (.iload 5, 2) := by decide +kernel
theorem dX11_lay_15 : decode cX11_lay 15 = .ok (.goto 31, 3) := by decide +kernel
theorem dX11_lay_18 : decode cX11_lay 18 = .ok (.aload_n 0, 1) := by decide +kernel
theorem dX11_lay_19 : decode cX11_lay 19 = .ok (.iload 4, 2) := by decide +kernel
theorem dX11_lay_21 : decode cX11_lay 21 = .ok (.iload_n 2, 1) := by decide +kernel
theorem dX11_lay_22 : decode cX11_lay 22 = .ok (.iconst 5, 1) := by decide +kernel
theorem dX11_lay_23 : decode cX11_lay 23 = .ok (.if_icmp .ne 7, 3) := by decide +kernel
theorem dX11_lay_26 : decode cX11_lay 26 = .ok (.iconst 1, 1) := by decide +kernel
theorem dX11_lay_27 : decode cX11_lay 27 = .ok (.goto 16, 3) := by decide +kernel
theorem dX11_lay_30 : decode cX11_lay 30 = .ok (.iload_n 2, 1) := by decide +kernel
theorem dX11_lay_31 : decode cX11_lay 31 = .ok (.bipush 6, 2) := by decide +kernel
theorem dX11_lay_33 : decode cX11_lay 33 = .ok (.if_icmp .ne 8, 3) := by decide +kernel
theorem dX11_lay_36 : decode cX11_lay 36 = .ok (.bipush 8, 2) := by decide +kernel
theorem dX11_lay_38 : decode cX11_lay 38 = .ok (.goto 5, 3) := by decide +kernel
theorem dX11_lay_41 : decode cX11_lay 41 = .ok (.bipush 9, 2) := by decide +kernel
theorem dX11_lay_43 : decode cX11_lay 43 = .ok (.invokevirtual 150, 3) := by decide +kernel
theorem dX11_lay_46 : decode cX11_lay 46 = .ok (.istore 5, 2) := by decide +kernel
theorem dX11_lay_48 : decode cX11_lay 48 = .ok (.iload 5, 2) := by decide +kernel
theorem dX11_lay_50 : decode cX11_lay 50 = .ok (.ifCond .eq 8, 3) := by decide +kernel
theorem dX11_lay_53 : decode cX11_lay 53 = .ok (.iload 5, 2) := by decide +kernel
theorem dX11_lay_55 : decode cX11_lay 55 = .ok (.goto 10, 3) := by decide +kernel
theorem dX11_lay_58 : decode cX11_lay 58 = .ok (.aload_n 0, 1) := by decide +kernel
theorem dX11_lay_59 : decode cX11_lay 59 = .ok (.iload_n 1, 1) := by decide +kernel
theorem dX11_lay_60 : decode cX11_lay 60 = .ok (.iload_n 2, 1) := by decide +kernel
theorem dX11_lay_61 : decode cX11_lay 61 = .ok (.iload_n 3, 1) := by decide +kernel
theorem dX11_lay_62 : decode cX11_lay 62 = .ok (.invokevirtual 170, 3) := by decide +kernel
theorem dX11_lay_65 : decode cX11_lay 65 = .ok (.istore 5, 2) := by decide +kernel
theorem dX11_lay_67 : decode cX11_lay 67 = .ok (.iload 5, 2) := by decide +kernel
theorem dX11_lay_69 : decode cX11_lay 69 = .ok (.ifCond .eq 6, 3) := by decide +kernel
theorem dX11_lay_72 : decode cX11_lay 72 = .ok (.iload 5, 2) := by decide +kernel
theorem dX11_lay_74 : decode cX11_lay 74 = .ok (.ireturn, 1) := by decide +kernel
theorem dX11_lay_75 : decode cX11_lay 75 = .ok (.aload_n 0, 1) := by decide +kernel
theorem dX11_lay_76 : decode cX11_lay 76 = .ok (.getfield 7, 3) := by decide +kernel
theorem dX11_lay_79 : decode cX11_lay 79 = .ok (.aload_n 0, 1) := by decide +kernel
theorem dX11_lay_80 : decode cX11_lay 80 = .ok (.getfield 26, 3) := by decide +kernel
theorem dX11_lay_83 : decode cX11_lay 83 = .ok (.iload_n 1, 1) := by decide +kernel
theorem dX11_lay_84 : decode cX11_lay 84 = .ok (.iaload, 1) := by decide +kernel
theorem dX11_lay_85 : decode cX11_lay 85 = .ok (.iaload, 1) := by decide +kernel
theorem dX11_lay_86 : decode cX11_lay 86 = .ok (.bipush 7, 2) := by decide +kernel
theorem dX11_lay_88 : decode cX11_lay 88 = .ok (.if_icmp .ne 32, 3) := by decide +kernel
theorem dX11_lay_91 : decode cX11_lay 91 = .ok (.aload_n 0, 1) := by decide +kernel
theorem dX11_lay_92 : decode cX11_lay 92 = .ok (.getfield 26, 3) := by decide +kernel
theorem dX11_lay_95 : decode cX11_lay 95 = .ok (.iload 4, 2) := by decide +kernel
theorem dX11_lay_97 : decode cX11_lay 97 = .ok (.iaload, 1) := by decide +kernel
theorem dX11_lay_98 : decode cX11_lay 98 = .ok (.ifCond .eq 22, 3) := by decide +kernel
theorem dX11_lay_101 : decode cX11_lay 101 = .ok (.aload_n 0, 1) := by decide +kernel
theorem dX11_lay_102 : decode cX11_lay 102 = .ok (.getfield 7, 3) := by decide +kernel
theorem dX11_lay_105 : decode cX11_lay 105 = .ok (.aload_n 0, 1) := by decide +kernel
theorem dX11_lay_106 : decode cX11_lay 106 = .ok (.getfield 26, 3) := by decide +kernel
theorem dX11_lay_109 : decode cX11_lay 109 = .ok (.iload 4, 2) := by decide +kernel
theorem dX11_lay_111 : decode cX11_lay 111 = .ok (.iaload, 1) := by decide +kernel
theorem dX11_lay_112 : decode cX11_lay 112 = .ok (.iaload, 1) := by decide +kernel
theorem dX11_lay_113 : decode cX11_lay 113 = .ok (.bipush 8, 2) := by decide +kernel
theorem dX11_lay_115 : decode cX11_lay 115 = .ok (.if_icmp .ne 5, 3) := by decide +kernel
theorem dX11_lay_118 : decode cX11_lay 118 = .ok (.iconst 5, 1) := by decide +kernel
theorem dX11_lay_119 : decode cX11_lay 119 = .ok (.ireturn, 1) := by decide +kernel
theorem dX11_lay_120 : decode cX11_lay 120 = .ok (.aload_n 0, 1) := by decide +kernel
theorem dX11_lay_121 : decode cX11_lay 121 = .ok (.getfield 22, 3) := by decide +kernel
theorem dX11_lay_124 : decode cX11_lay 124 = .ok (.aload_n 0, 1) := by decide +kernel
theorem dX11_lay_125 : decode cX11_lay 125 = .ok (.getfield 13, 3) := by decide +kernel
theorem dX11_lay_128 : decode cX11_lay 128 = .ok (.aload_n 0, 1) := by decide +kernel
theorem dX11_lay_129 : decode cX11_lay 129 = .ok (.getfield 26, 3) := by decide +kernel
theorem dX11_lay_132 : decode cX11_lay 132 = .ok (.iload_n 1, 1) := by decide +kernel
theorem dX11_lay_133 : decode cX11_lay 133 = .ok (.iaload, 1) := by decide +kernel
theorem dX11_lay_134 : decode cX11_lay 134 = .ok (.iaload, 1) := by decide +kernel
theorem dX11_lay_135 : decode cX11_lay 135 = .ok (.iload_n 3, 1) := by decide +kernel
theorem dX11_lay_136 : decode cX11_lay 136 = .ok (.iadd, 1) := by decide +kernel
theorem dX11_lay_137 : decode cX11_lay 137 = .ok (.aload_n 0, 1) := by decide +kernel
theorem dX11_lay_138 : decode cX11_lay 138 = .ok (.getfield 26, 3) := by decide +kernel
theorem dX11_lay_141 : decode cX11_lay 141 = .ok (.iload 4, 2) := by decide +kernel
theorem dX11_lay_143 : decode cX11_lay 143 = .ok (.iaload, 1) := by decide +kernel
theorem dX11_lay_144 : decode cX11_lay 144 = .ok (.i2l, 1) := by decide +kernel
theorem dX11_lay_145 : decode cX11_lay 145 = .ok (.lastore, 1) := by decide +kernel
theorem dX11_lay_146 : decode cX11_lay 146 = .ok (.iconst 0, 1) := by decide +kernel
theorem dX11_lay_147 : decode cX11_lay 147 = .ok (.ireturn, 1) := by decide +kernel
theorem dX11_meet_0 : decode cX11_meet 0 = .ok (.iload_n 0, 1) := by decide +kernel
theorem dX11_meet_1 : decode cX11_meet 1 = .ok (.iload_n 1, 1) := by decide +kernel
theorem dX11_meet_2 : decode cX11_meet 2 = .ok (.if_icmp .ne 9, 3) := by decide +kernel
theorem dX11_meet_5 : decode cX11_meet 5 = .ok (.iload_n 0, 1) := by decide +kernel
theorem dX11_meet_6 : decode cX11_meet 6 = .ok (.bipush 8, 2) := by decide +kernel
theorem dX11_meet_8 : decode cX11_meet 8 = .ok (.if_icmp .lt 23, 3) := by decide +kernel
theorem dX11_meet_11 : decode cX11_meet 11 = .ok (.iload_n 0, 1) := by decide +kernel
theorem dX11_meet_12 : decode cX11_meet 12 = .ok (.iconst 5, 1) := by decide +kernel
theorem dX11_meet_13 : decode cX11_meet 13 = .ok (.bipush 7, 2) := by decide +kernel
theorem dX11_meet_15 : decode cX11_meet 15 = .ok (.invokestatic 103, 3) := by decide +kernel
theorem dX11_meet_18 : decode cX11_meet 18 = .ok (.ifCond .eq 17, 3) := by decide +kernel
theorem dX11_meet_21 : decode cX11_meet 21 = .ok (.iload_n 1, 1) := by decide +kernel
theorem dX11_meet_22 : decode cX11_meet 22 = .ok (.iconst 5, 1) := by decide +kernel
theorem dX11_meet_23 : decode cX11_meet 23 = .ok (.bipush 7, 2) := by decide +kernel
theorem dX11_meet_25 : decode cX11_meet 25 = .ok (.invokestatic 103, 3) := by decide +kernel
theorem dX11_meet_28 : decode cX11_meet 28 = .ok (.ifCond .eq 7, 3) := by decide +kernel
theorem dX11_meet_31 : decode cX11_meet 31 = .ok (.iconst 1, 1) := by decide +kernel
theorem dX11_meet_32 : decode cX11_meet 32 = .ok (.goto 4, 3) := by decide +kernel
theorem dX11_meet_35 : decode cX11_meet 35 = .ok (.iconst 0, 1) := by decide +kernel
theorem dX11_meet_36 : decode cX11_meet 36 = .ok (.ireturn, 1) := by decide +kernel
theorem dX11_copy_0 : decode cX11_copy 0 = .ok (.aload_n 0, 1) := by decide +kernel
theorem dX11_copy_1 : decode cX11_copy 1 = .ok (.getfield 26, 3) := by decide +kernel
theorem dX11_copy_4 : decode cX11_copy 4 = .ok (.iload_n 1, 1) := by decide +kernel
theorem dX11_copy_5 : decode cX11_copy 5 = .ok (.iaload, 1) := by decide +kernel
theorem dX11_copy_6 : decode cX11_copy 6 = .ok (.istore 6, 2) := by decide +kernel
theorem dX11_copy_8 : decode cX11_copy 8 = .ok (.aload_n 0, 1) := by decide +kernel
theorem dX11_copy_9 : decode cX11_copy 9 = .ok (.getfield 26, 3) := by decide +kernel
theorem dX11_copy_12 : decode cX11_copy 12 = .ok (.iload_n 3, 1) := by decide +kernel
theorem dX11_copy_13 : decode cX11_copy 13 = .ok (.iaload, 1) := by decide +kernel
theorem dX11_copy_14 : decode cX11_copy 14 = .ok (.istore 7, 2) := by decide +kernel
theorem dX11_copy_16 : decode cX11_copy 16 = .ok (.iload 6, 2) := by decide +kernel
theorem dX11_copy_18 : decode cX11_copy 18 = .ok (.ifCond .eq 8, 3) := by decide +kernel
theorem dX11_copy_21 : decode cX11_copy 21 = .ok (.iload 7, 2) := by decide +kernel
theorem dX11_copy_23 : decode cX11_copy 23 = .ok (.ifCond .ne 5, 3) := by decide +kernel
theorem dX11_copy_26 : decode cX11_copy 26 = .ok (.iconst 1, 1) := by decide +kernel
theorem dX11_copy_27 : decode cX11_copy 27 = .ok (.ireturn, 1) := by decide +kernel
theorem dX11_copy_28 : decode cX11_copy 28 = .ok (.aload_n 0, 1) := by decide +kernel
theorem dX11_copy_29 : decode cX11_copy 29 = .ok (.getfield 7, 3) := by decide +kernel
theorem dX11_copy_32 : decode cX11_copy 32 = .ok (.iload 6, 2) := by decide +kernel
theorem dX11_copy_34 : decode cX11_copy 34 = .ok (.iaload, 1) := by decide +kernel
theorem dX11_copy_35 : decode cX11_copy 35 = .ok (.aload_n 0, 1) := by decide +kernel
theorem dX11_copy_36 : decode cX11_copy 36 = .ok (.getfield 7, 3) := by decide +kernel
theorem dX11_copy_39 : decode cX11_copy 39 = .ok (.iload 7, 2) := by decide +kernel
theorem dX11_copy_41 : decode cX11_copy 41 = .ok (.iaload, 1) := by decide +kernel
theorem dX11_copy_42 : decode cX11_copy 42 = .ok (.invokestatic 174, 3) := by decide +kernel
theorem dX11_copy_45 : decode cX11_copy 45 = .ok (.ifCond .ne 5, 3) := by decide +kernel
theorem dX11_copy_48 : decode cX11_copy 48 = .ok (.iconst 5, 1) := by decide +kernel
theorem dX11_copy_49 : decode cX11_copy 49 = .ok (.ireturn, 1) := by decide +kernel
theorem dX11_copy_50 : decode cX11_copy 50 = .ok (.iload_n 2, 1) := by decide +kernel
theorem dX11_copy_51 : decode cX11_copy 51 = .ok (.ifCond .lt 50, 3) := by decide +kernel
theorem dX11_copy_54 : decode cX11_copy 54 = .ok (.iload 4, 2) := by decide +kernel
theorem dX11_copy_56 : decode cX11_copy 56 = .ok (.ifCond .lt 45, 3) := by decide +kernel
theorem dX11_copy_59 : decode cX11_copy 59 = .ok (.iload 5, 2) := by decide +kernel
theorem dX11_copy_61 : decode cX11_copy 61 = .ok (.ifCond .lt 40, 3) := by decide +kernel
theorem dX11_copy_64 : decode cX11_copy 64 = .ok (.iload_n 2, 1) := by decide +kernel
theorem dX11_copy_65 : decode cX11_copy 65 = .ok (.i2l, 1) := by decide +kernel
theorem dX11_copy_66 : decode cX11_copy 66 = .ok (.iload 5, 2) := by decide +kernel
theorem dX11_copy_68 : decode cX11_copy 68 = .ok (.i2l, 1) := by decide +kernel
theorem dX11_copy_69 : decode cX11_copy 69 = .ok (.ladd, 1) := by decide +kernel
theorem dX11_copy_70 : decode cX11_copy 70 = .ok (.aload_n 0, 1) := by decide +kernel
theorem dX11_copy_71 : decode cX11_copy 71 = .ok (.getfield 16, 3) := by decide +kernel
theorem dX11_copy_74 : decode cX11_copy 74 = .ok (.iload 6, 2) := by decide +kernel
theorem dX11_copy_76 : decode cX11_copy 76 = .ok (.iaload, 1) := by decide +kernel
theorem dX11_copy_77 : decode cX11_copy 77 = .ok (.i2l, 1) := by decide +kernel
theorem dX11_copy_78 : decode cX11_copy 78 = .ok (.lcmp, 1) := by decide +kernel
theorem dX11_copy_79 : decode cX11_copy 79 = .ok (.ifCond .gt 22, 3) := by decide +kernel
theorem dX11_copy_82 : decode cX11_copy 82 = .ok (.iload 4, 2) := by decide +kernel
theorem dX11_copy_84 : decode cX11_copy 84 = .ok (.i2l, 1) := by decide +kernel
theorem dX11_copy_85 : decode cX11_copy 85 = .ok (.iload 5, 2) := by decide +kernel
theorem dX11_copy_87 : decode cX11_copy 87 = .ok (.i2l, 1) := by decide +kernel
theorem dX11_copy_88 : decode cX11_copy 88 = .ok (.ladd, 1) := by decide +kernel
theorem dX11_copy_89 : decode cX11_copy 89 = .ok (.aload_n 0, 1) := by decide +kernel
theorem dX11_copy_90 : decode cX11_copy 90 = .ok (.getfield 16, 3) := by decide +kernel
theorem dX11_copy_93 : decode cX11_copy 93 = .ok (.iload 7, 2) := by decide +kernel
theorem dX11_copy_95 : decode cX11_copy 95 = .ok (.iaload, 1) := by decide +kernel
theorem dX11_copy_96 : decode cX11_copy 96 = .ok (.i2l, 1) := by decide +kernel
theorem dX11_copy_97 : decode cX11_copy 97 = .ok (.lcmp, 1) := by decide +kernel
theorem dX11_copy_98 : decode cX11_copy 98 = .ok (.ifCond .le 5, 3) := by decide +kernel
theorem dX11_copy_101 : decode cX11_copy 101 = .ok (.iconst 3, 1) := by decide +kernel
theorem dX11_copy_102 : decode cX11_copy 102 = .ok (.ireturn, 1) := by decide +kernel
theorem dX11_copy_103 : decode cX11_copy 103 = .ok (.aload_n 0, 1) := by decide +kernel
theorem dX11_copy_104 : decode cX11_copy 104 = .ok (.getfield 7, 3) := by decide +kernel
theorem dX11_copy_107 : decode cX11_copy 107 = .ok (.iload 7, 2) := by decide +kernel
theorem dX11_copy_109 : decode cX11_copy 109 = .ok (.iaload, 1) := by decide +kernel
theorem dX11_copy_110 : decode cX11_copy 110 = .ok (.iconst 5, 1) := by decide +kernel
theorem dX11_copy_111 : decode cX11_copy 111 = .ok (.if_icmp .ne 7, 3) := by decide +kernel
theorem dX11_copy_114 : decode cX11_copy 114 = .ok (.iconst 1, 1) := by decide +kernel
theorem dX11_copy_115 : decode cX11_copy 115 = .ok (.goto 22, 3) := by decide +kernel
theorem dX11_copy_118 : decode cX11_copy 118 = .ok (.aload_n 0, 1) := by decide +kernel
theorem dX11_copy_119 : decode cX11_copy 119 = .ok (.getfield 7, 3) := by decide +kernel
theorem dX11_copy_122 : decode cX11_copy 122 = .ok (.iload 7, 2) := by decide +kernel
theorem dX11_copy_124 : decode cX11_copy 124 = .ok (.iaload, 1) := by decide +kernel
theorem dX11_copy_125 : decode cX11_copy 125 = .ok (.bipush 6, 2) := by decide +kernel
theorem dX11_copy_127 : decode cX11_copy 127 = .ok (.if_icmp .ne 8, 3) := by decide +kernel
theorem dX11_copy_130 : decode cX11_copy 130 = .ok (.bipush 8, 2) := by decide +kernel
theorem dX11_copy_132 : decode cX11_copy 132 = .ok (.goto 5, 3) := by decide +kernel
theorem dX11_copy_135 : decode cX11_copy 135 = .ok (.bipush 9, 2) := by decide +kernel
theorem dX11_copy_137 : decode cX11_copy 137 = .ok (.istore 8, 2) := by decide +kernel
theorem dX11_copy_139 : decode cX11_copy 139 = .ok (.iconst 0, 1) := by decide +kernel
theorem dX11_copy_140 : decode cX11_copy 140 = .ok (.istore 9, 2) := by decide +kernel
theorem dX11_copy_142 : decode cX11_copy 142 = .ok (.iload 9, 2) := by decide +kernel
theorem dX11_copy_144 : decode cX11_copy 144 = .ok (.iload 5, 2) := by decide +kernel
theorem dX11_copy_146 : decode cX11_copy 146 = .ok (.if_icmp .ge 33, 3) := by decide +kernel
theorem dX11_copy_149 : decode cX11_copy 149 = .ok (.aload_n 0, 1) := by decide +kernel
theorem dX11_copy_150 : decode cX11_copy 150 = .ok (.getfield 57, 3) := by decide +kernel
theorem dX11_copy_153 : decode cX11_copy 153 = .ok (.iload 9, 2) := by decide +kernel
theorem dX11_copy_155 : decode cX11_copy 155 = .ok (.aload_n 0, 1) := by decide +kernel
theorem dX11_copy_156 : decode cX11_copy 156 = .ok (.getfield 22, 3) := by decide +kernel
theorem dX11_copy_159 : decode cX11_copy 159 = .ok (.aload_n 0, 1) := by decide +kernel
theorem dX11_copy_160 : decode cX11_copy 160 = .ok (.getfield 13, 3) := by decide +kernel
theorem dX11_copy_163 : decode cX11_copy 163 = .ok (.iload 6, 2) := by decide +kernel
theorem dX11_copy_165 : decode cX11_copy 165 = .ok (.iaload, 1) := by decide +kernel
theorem dX11_copy_166 : decode cX11_copy 166 = .ok (.iload_n 2, 1) := by decide +kernel
theorem dX11_copy_167 : decode cX11_copy 167 = .ok (.iadd, 1) := by decide +kernel
theorem dX11_copy_168 : decode cX11_copy 168 = .ok (.iload 9, 2) := by decide +kernel
theorem dX11_copy_170 : decode cX11_copy 170 = .ok (.iadd, 1) := by decide +kernel
theorem dX11_copy_171 : decode cX11_copy 171 = .ok (.laload, 1) := by decide +kernel
theorem dX11_copy_172 : decode cX11_copy 172 = .ok (.lastore, 1) := by decide +kernel
theorem dX11_copy_173 : decode cX11_copy 173 = .ok (.iinc 9 1, 3) := by decide +kernel
theorem dX11_copy_176 : decode cX11_copy 176 = .ok (.goto (-34), 3) := by decide +kernel
theorem dX11_copy_179 : decode cX11_copy 179 = .ok (.iconst 0, 1) := by decide +kernel
theorem dX11_copy_180 : decode cX11_copy 180 = .ok (.istore 9, 2) := by decide +kernel
theorem dX11_copy_182 : decode cX11_copy 182 = .ok (.iload 9, 2) := by decide +kernel
theorem dX11_copy_184 : decode cX11_copy 184 = .ok (.iload 5, 2) := by decide +kernel
theorem dX11_copy_186 : decode cX11_copy 186 = .ok (.if_icmp .ge 86, 3) := by decide +kernel
theorem dX11_copy_189 : decode cX11_copy 189 = .ok (.aload_n 0, 1) := by decide +kernel
theorem dX11_copy_190 : decode cX11_copy 190 = .ok (.getfield 7, 3) := by decide +kernel
theorem dX11_copy_193 : decode cX11_copy 193 = .ok (.iload 7, 2) := by decide +kernel
theorem dX11_copy_195 : decode cX11_copy 195 = .ok (.iaload, 1) := by decide +kernel
theorem dX11_copy_196 : decode cX11_copy 196 = .ok (.iconst 5, 1) := by decide +kernel
theorem dX11_copy_197 : decode cX11_copy 197 = .ok (.if_icmp .lt 34, 3) := by decide +kernel
theorem dX11_copy_200 : decode cX11_copy 200 = .ok (.aload_n 0, 1) := by decide +kernel
theorem dX11_copy_201 : decode cX11_copy 201 = .ok (.getfield 57, 3) := by decide +kernel
theorem dX11_copy_204 : decode cX11_copy 204 = .ok (.iload 9, 2) := by decide +kernel
theorem dX11_copy_206 : decode cX11_copy 206 = .ok (.laload, 1) := by decide +kernel
theorem dX11_copy_207 : decode cX11_copy 207 = .ok (.lconst 0, 1) := by decide +kernel
theorem dX11_copy_208 : decode cX11_copy 208 = .ok (.lcmp, 1) := by decide +kernel
theorem dX11_copy_209 : decode cX11_copy 209 = .ok (.ifCond .eq 22, 3) := by decide +kernel
theorem dX11_copy_212 : decode cX11_copy 212 = .ok (.aload_n 0, 1) := by decide +kernel
theorem dX11_copy_213 : decode cX11_copy 213 = .ok (.aload_n 0, 1) := by decide +kernel
theorem dX11_copy_214 : decode cX11_copy 214 = .ok (.getfield 57, 3) := by decide +kernel
theorem dX11_copy_217 : decode cX11_copy 217 = .ok (.iload 9, 2) := by decide +kernel
theorem dX11_copy_219 : decode cX11_copy 219 = .ok (.laload, 1) := by decide +kernel
theorem dX11_copy_220 : decode cX11_copy 220 = .ok (.l2i, 1) := by decide +kernel
theorem dX11_copy_221 : decode cX11_copy 221 = .ok (.iload 8, 2) := by decide +kernel
theorem dX11_copy_223 : decode cX11_copy 223 = .ok (.invokevirtual 146, 3) := by decide +kernel
theorem dX11_copy_226 : decode cX11_copy 226 = .ok (.ifCond .ne 5, 3) := by decide +kernel
theorem dX11_copy_229 : decode cX11_copy 229 = .ok (.iconst 5, 1) := by decide +kernel
theorem dX11_copy_230 : decode cX11_copy 230 = .ok (.ireturn, 1) := by decide +kernel
theorem dX11_copy_231 : decode cX11_copy 231 = .ok (.aload_n 0, 1) := by decide +kernel
theorem dX11_copy_232 : decode cX11_copy 232 = .ok (.getfield 22, 3) := by decide +kernel
theorem dX11_copy_235 : decode cX11_copy 235 = .ok (.aload_n 0, 1) := by decide +kernel
theorem dX11_copy_236 : decode cX11_copy 236 = .ok (.getfield 13, 3) := by decide +kernel
theorem dX11_copy_239 : decode cX11_copy 239 = .ok (.iload 7, 2) := by decide +kernel
theorem dX11_copy_241 : decode cX11_copy 241 = .ok (.iaload, 1) := by decide +kernel
theorem dX11_copy_242 : decode cX11_copy 242 = .ok (.iload 4, 2) := by decide +kernel
theorem dX11_copy_244 : decode cX11_copy 244 = .ok (.iadd, 1) := by decide +kernel
theorem dX11_copy_245 : decode cX11_copy 245 = .ok (.iload 9, 2) := by decide +kernel
theorem dX11_copy_247 : decode cX11_copy 247 = .ok (.iadd, 1) := by decide +kernel
theorem dX11_copy_248 : decode cX11_copy 248 = .ok (.aload_n 0, 1) := by decide +kernel
theorem dX11_copy_249 : decode cX11_copy 249 = .ok (.getfield 57, 3) := by decide +kernel
theorem dX11_copy_252 : decode cX11_copy 252 = .ok (.iload 9, 2) := by decide +kernel
theorem dX11_copy_254 : decode cX11_copy 254 = .ok (.laload, 1) := by decide +kernel
theorem dX11_copy_255 : decode cX11_copy 255 = .ok (.lastore, 1) := by decide +kernel
theorem dX11_copy_256 : decode cX11_copy 256 = .ok (.aload_n 0, 1) := by decide +kernel
theorem dX11_copy_257 : decode cX11_copy 257 = .ok (.dup, 1) := by decide +kernel
theorem dX11_copy_258 : decode cX11_copy 258 = .ok (.getfield 177, 3) := by decide +kernel
theorem dX11_copy_261 : decode cX11_copy 261 = .ok (.iconst 1, 1) := by decide +kernel
theorem dX11_copy_262 : decode cX11_copy 262 = .ok (.iadd, 1) := by decide +kernel
theorem dX11_copy_263 : decode cX11_copy 263 = .ok (.putfield 177, 3) := by decide +kernel
theorem dX11_copy_266 : decode cX11_copy 266 = .ok (.iinc 9 1, 3) := by decide +kernel
theorem dX11_copy_269 : decode cX11_copy 269 = .ok (.goto (-87), 3) := by decide +kernel
theorem dX11_copy_272 : decode cX11_copy 272 = .ok (.iconst 0, 1) := by decide +kernel
theorem dX11_copy_273 : decode cX11_copy 273 = .ok (.ireturn, 1) := by decide +kernel
theorem dX11_divide_0 : decode cX11_divide 0 = .ok (.aload_n 0, 1) := by decide +kernel
theorem dX11_divide_1 : decode cX11_divide 1 = .ok (.getfield 29, 3) := by decide +kernel
theorem dX11_divide_4 : decode cX11_divide 4 = .ok (.iload_n 3, 1) := by decide +kernel
theorem dX11_divide_5 : decode cX11_divide 5 = .ok (.laload, 1) := by decide +kernel
theorem dX11_divide_6 : decode cX11_divide 6 = .ok (.lconst 0, 1) := by decide +kernel
theorem dX11_divide_7 : decode cX11_divide 7 = .ok (.lcmp, 1) := by decide +kernel
theorem dX11_divide_8 : decode cX11_divide 8 = .ok (.ifCond .ne 6, 3) := by decide +kernel
theorem dX11_divide_11 : decode cX11_divide 11 = .ok (.bipush 6, 2) := by decide +kernel
theorem dX11_divide_13 : decode cX11_divide 13 = .ok (.ireturn, 1) := by decide +kernel
theorem dX11_divide_14 : decode cX11_divide 14 = .ok (.aload_n 0, 1) := by decide +kernel
theorem dX11_divide_15 : decode cX11_divide 15 = .ok (.getfield 29, 3) := by decide +kernel
theorem dX11_divide_18 : decode cX11_divide 18 = .ok (.iload_n 3, 1) := by decide +kernel
theorem dX11_divide_19 : decode cX11_divide 19 = .ok (.laload, 1) := by decide +kernel
theorem dX11_divide_20 : decode cX11_divide 20 = .ok (.ldc2_w 180, 3) := by decide +kernel
theorem dX11_divide_23 : decode cX11_divide 23 = .ok (.lcmp, 1) := by decide +kernel
theorem dX11_divide_24 : decode cX11_divide 24 = .ok (.ifCond .ne 13, 3) := by decide +kernel
theorem dX11_divide_27 : decode cX11_divide 27 = .ok (.aload_n 0, 1) := by decide +kernel
theorem dX11_divide_28 : decode cX11_divide 28 = .ok (.getfield 29, 3) := by decide +kernel
theorem dX11_divide_31 : decode cX11_divide 31 = .ok (.iload_n 2, 1) := by decide +kernel
theorem dX11_divide_32 : decode cX11_divide 32 = .ok (.laload, 1) := by decide +kernel
theorem dX11_divide_33 : decode cX11_divide 33 = .ok (.lneg, 1) := by decide +kernel
theorem dX11_divide_34 : decode cX11_divide 34 = .ok (.goto 16, 3) := by decide +kernel
theorem dX11_divide_37 : decode cX11_divide 37 = .ok (.aload_n 0, 1) := by decide +kernel
theorem dX11_divide_38 : decode cX11_divide 38 = .ok (.getfield 29, 3) := by decide +kernel
theorem dX11_divide_41 : decode cX11_divide 41 = .ok (.iload_n 2, 1) := by decide +kernel
theorem dX11_divide_42 : decode cX11_divide 42 = .ok (.laload, 1) := by decide +kernel
theorem dX11_divide_43 : decode cX11_divide 43 = .ok (.aload_n 0, 1) := by decide +kernel
theorem dX11_divide_44 : decode cX11_divide 44 = .ok (.getfield 29, 3) := by decide +kernel
theorem dX11_divide_47 : decode cX11_divide 47 = .ok (.iload_n 3, 1) := by decide +kernel
theorem dX11_divide_48 : decode cX11_divide 48 = .ok (.laload, 1) := by decide +kernel
theorem dX11_divide_49 : decode cX11_divide 49 = .ok (.ldiv, 1) := by decide +kernel
theorem dX11_divide_50 : decode cX11_divide 50 = .ok (.lstore 5, 2) := by decide +kernel
theorem dX11_divide_52 : decode cX11_divide 52 = .ok (.aload_n 0, 1) := by decide +kernel
theorem dX11_divide_53 : decode cX11_divide 53 = .ok (.getfield 29, 3) := by decide +kernel
theorem dX11_divide_56 : decode cX11_divide 56 = .ok (.iload_n 1, 1) := by decide +kernel
theorem dX11_divide_57 : decode cX11_divide 57 = .ok (.iload 4, 2) := by decide +kernel
theorem dX11_divide_59 : decode cX11_divide 59 = .ok (.ifCond .eq 22, 3) := by decide +kernel
theorem dX11_divide_62 : decode cX11_divide 62 = .ok (.aload_n 0, 1) := by decide +kernel
theorem dX11_divide_63 : decode cX11_divide 63 = .ok (.getfield 29, 3) := by decide +kernel
theorem dX11_divide_66 : decode cX11_divide 66 = .ok (.iload_n 2, 1) := by decide +kernel
theorem dX11_divide_67 : decode cX11_divide 67 = .ok (.laload, 1) := by decide +kernel
theorem dX11_divide_68 : decode cX11_divide 68 = .ok (.lload 5, 2) := by decide +kernel
theorem dX11_divide_70 : decode cX11_divide 70 = .ok (.aload_n 0, 1) := by decide +kernel
theorem dX11_divide_71 : decode cX11_divide 71 = .ok (.getfield 29, 3) := by decide +kernel
theorem dX11_divide_74 : decode cX11_divide 74 = .ok (.iload_n 3, 1) := by decide +kernel
theorem dX11_divide_75 : decode cX11_divide 75 = .ok (.laload, 1) := by decide +kernel
theorem dX11_divide_76 : decode cX11_divide 76 = .ok (.lmul, 1) := by decide +kernel
theorem dX11_divide_77 : decode cX11_divide 77 = .ok (.lsub, 1) := by decide +kernel
theorem dX11_divide_78 : decode cX11_divide 78 = .ok (.goto 5, 3) := by decide +kernel
theorem dX11_divide_81 : decode cX11_divide 81 = .ok (.lload 5, 2) := by decide +kernel
theorem dX11_divide_83 : decode cX11_divide 83 = .ok (.lastore, 1) := by decide +kernel
theorem dX11_divide_84 : decode cX11_divide 84 = .ok (.iconst 0, 1) := by decide +kernel
theorem dX11_divide_85 : decode cX11_divide 85 = .ok (.ireturn, 1) := by decide +kernel
theorem dX11_tell_0 : decode cX11_tell 0 = .ok (.aload_n 0, 1) := by decide +kernel
theorem dX11_tell_1 : decode cX11_tell 1 = .ok (.iload_n 2, 1) := by decide +kernel
theorem dX11_tell_2 : decode cX11_tell 2 = .ok (.bipush 8, 2) := by decide +kernel
theorem dX11_tell_4 : decode cX11_tell 4 = .ok (.invokevirtual 154, 3) := by decide +kernel
theorem dX11_tell_7 : decode cX11_tell 7 = .ok (.istore_n 3, 1) := by decide +kernel
theorem dX11_tell_8 : decode cX11_tell 8 = .ok (.iload_n 3, 1) := by decide +kernel
theorem dX11_tell_9 : decode cX11_tell 9 = .ok (.ifCond .ne 51, 3) := by decide +kernel
theorem dX11_tell_12 : decode cX11_tell 12 = .ok (.aload_n 0, 1) := by decide +kernel
theorem dX11_tell_13 : decode cX11_tell 13 = .ok (.getfield 19, 3) := by decide +kernel
theorem dX11_tell_16 : decode cX11_tell 16 = .ok (.aload_n 0, 1) := by decide +kernel
theorem dX11_tell_17 : decode cX11_tell 17 = .ok (.getfield 26, 3) := by decide +kernel
theorem dX11_tell_20 : decode cX11_tell 20 = .ok (.iload_n 2, 1) := by decide +kernel
theorem dX11_tell_21 : decode cX11_tell 21 = .ok (.iaload, 1) := by decide +kernel
theorem dX11_tell_22 : decode cX11_tell 22 = .ok (.iaload, 1) := by decide +kernel
theorem dX11_tell_23 : decode cX11_tell 23 = .ok (.istore 4, 2) := by decide +kernel
theorem dX11_tell_25 : decode cX11_tell 25 = .ok (.aload_n 0, 1) := by decide +kernel
theorem dX11_tell_26 : decode cX11_tell 26 = .ok (.getfield 29, 3) := by decide +kernel
theorem dX11_tell_29 : decode cX11_tell 29 = .ok (.iload_n 1, 1) := by decide +kernel
theorem dX11_tell_30 : decode cX11_tell 30 = .ok (.aload_n 0, 1) := by decide +kernel
theorem dX11_tell_31 : decode cX11_tell 31 = .ok (.getfield 7, 3) := by decide +kernel
theorem dX11_tell_34 : decode cX11_tell 34 = .ok (.aload_n 0, 1) := by decide +kernel
theorem dX11_tell_35 : decode cX11_tell 35 = .ok (.getfield 26, 3) := by decide +kernel
theorem dX11_tell_38 : decode cX11_tell 38 = .ok (.iload_n 2, 1) := by decide +kernel
theorem dX11_tell_39 : decode cX11_tell 39 = .ok (.iaload, 1) := by decide +kernel
theorem dX11_tell_40 : decode cX11_tell 40 = .ok (.iaload, 1) := by decide +kernel
theorem dX11_tell_41 : decode cX11_tell 41 = .ok (.bipush 9, 2) := by decide +kernel
theorem dX11_tell_43 : decode cX11_tell 43 = .ok (.if_icmp .ne 13, 3) := by decide +kernel
theorem dX11_tell_46 : decode cX11_tell 46 = .ok (.iconst 2, 1) := by decide +kernel
theorem dX11_tell_47 : decode cX11_tell 47 = .ok (.iload 4, 2) := by decide +kernel
theorem dX11_tell_49 : decode cX11_tell 49 = .ok (.imul, 1) := by decide +kernel
theorem dX11_tell_50 : decode cX11_tell 50 = .ok (.iconst 1, 1) := by decide +kernel
theorem dX11_tell_51 : decode cX11_tell 51 = .ok (.iadd, 1) := by decide +kernel
theorem dX11_tell_52 : decode cX11_tell 52 = .ok (.i2l, 1) := by decide +kernel
theorem dX11_tell_53 : decode cX11_tell 53 = .ok (.goto 6, 3) := by decide +kernel
theorem dX11_tell_56 : decode cX11_tell 56 = .ok (.iload 4, 2) := by decide +kernel
theorem dX11_tell_58 : decode cX11_tell 58 = .ok (.i2l, 1) := by decide +kernel
theorem dX11_tell_59 : decode cX11_tell 59 = .ok (.lastore, 1) := by decide +kernel
theorem dX11_tell_60 : decode cX11_tell 60 = .ok (.iload_n 3, 1) := by decide +kernel
theorem dX11_tell_61 : decode cX11_tell 61 = .ok (.ireturn, 1) := by decide +kernel
theorem dX11_get_0 : decode cX11_get 0 = .ok (.aload_n 0, 1) := by decide +kernel
theorem dX11_get_1 : decode cX11_get 1 = .ok (.iload_n 2, 1) := by decide +kernel
theorem dX11_get_2 : decode cX11_get 2 = .ok (.iload_n 3, 1) := by decide +kernel
theorem dX11_get_3 : decode cX11_get 3 = .ok (.iload 4, 2) := by decide +kernel
theorem dX11_get_5 : decode cX11_get 5 = .ok (.invokevirtual 170, 3) := by decide +kernel
theorem dX11_get_8 : decode cX11_get 8 = .ok (.istore 5, 2) := by decide +kernel
theorem dX11_get_10 : decode cX11_get 10 = .ok (.iload 5, 2) := by decide +kernel
theorem dX11_get_12 : decode cX11_get 12 = .ok (.ifCond .ne 28, 3) := by decide +kernel
theorem dX11_get_15 : decode cX11_get 15 = .ok (.aload_n 0, 1) := by decide +kernel
theorem dX11_get_16 : decode cX11_get 16 = .ok (.getfield 29, 3) := by decide +kernel
theorem dX11_get_19 : decode cX11_get 19 = .ok (.iload_n 1, 1) := by decide +kernel
theorem dX11_get_20 : decode cX11_get 20 = .ok (.aload_n 0, 1) := by decide +kernel
theorem dX11_get_21 : decode cX11_get 21 = .ok (.getfield 22, 3) := by decide +kernel
theorem dX11_get_24 : decode cX11_get 24 = .ok (.aload_n 0, 1) := by decide +kernel
theorem dX11_get_25 : decode cX11_get 25 = .ok (.getfield 13, 3) := by decide +kernel
theorem dX11_get_28 : decode cX11_get 28 = .ok (.aload_n 0, 1) := by decide +kernel
theorem dX11_get_29 : decode cX11_get 29 = .ok (.getfield 26, 3) := by decide +kernel
theorem dX11_get_32 : decode cX11_get 32 = .ok (.iload_n 2, 1) := by decide +kernel
theorem dX11_get_33 : decode cX11_get 33 = .ok (.iaload, 1) := by decide +kernel
theorem dX11_get_34 : decode cX11_get 34 = .ok (.iaload, 1) := by decide +kernel
theorem dX11_get_35 : decode cX11_get 35 = .ok (.iload 4, 2) := by decide +kernel
theorem dX11_get_37 : decode cX11_get 37 = .ok (.iadd, 1) := by decide +kernel
theorem dX11_get_38 : decode cX11_get 38 = .ok (.laload, 1) := by decide +kernel
theorem dX11_get_39 : decode cX11_get 39 = .ok (.lastore, 1) := by decide +kernel
theorem dX11_get_40 : decode cX11_get 40 = .ok (.iload 5, 2) := by decide +kernel
theorem dX11_get_42 : decode cX11_get 42 = .ok (.ireturn, 1) := by decide +kernel
theorem dX11_set_0 : decode cX11_set 0 = .ok (.aload_n 0, 1) := by decide +kernel
theorem dX11_set_1 : decode cX11_set 1 = .ok (.iload_n 1, 1) := by decide +kernel
theorem dX11_set_2 : decode cX11_set 2 = .ok (.iload_n 2, 1) := by decide +kernel
theorem dX11_set_3 : decode cX11_set 3 = .ok (.iload_n 3, 1) := by decide +kernel
theorem dX11_set_4 : decode cX11_set 4 = .ok (.invokevirtual 170, 3) := by decide +kernel
theorem dX11_set_7 : decode cX11_set 7 = .ok (.istore 5, 2) := by decide +kernel
theorem dX11_set_9 : decode cX11_set 9 = .ok (.iload 5, 2) := by decide +kernel
theorem dX11_set_11 : decode cX11_set 11 = .ok (.ifCond .ne 32, 3) := by decide +kernel
theorem dX11_set_14 : decode cX11_set 14 = .ok (.aload_n 0, 1) := by decide +kernel
theorem dX11_set_15 : decode cX11_set 15 = .ok (.getfield 22, 3) := by decide +kernel
theorem dX11_set_18 : decode cX11_set 18 = .ok (.aload_n 0, 1) := by decide +kernel
theorem dX11_set_19 : decode cX11_set 19 = .ok (.getfield 13, 3) := by decide +kernel
theorem dX11_set_22 : decode cX11_set 22 = .ok (.aload_n 0, 1) := by decide +kernel
theorem dX11_set_23 : decode cX11_set 23 = .ok (.getfield 26, 3) := by decide +kernel
theorem dX11_set_26 : decode cX11_set 26 = .ok (.iload_n 1, 1) := by decide +kernel
theorem dX11_set_27 : decode cX11_set 27 = .ok (.iaload, 1) := by decide +kernel
theorem dX11_set_28 : decode cX11_set 28 = .ok (.iaload, 1) := by decide +kernel
theorem dX11_set_29 : decode cX11_set 29 = .ok (.iload_n 3, 1) := by decide +kernel
theorem dX11_set_30 : decode cX11_set 30 = .ok (.iadd, 1) := by decide +kernel
theorem dX11_set_31 : decode cX11_set 31 = .ok (.iload_n 2, 1) := by decide +kernel
theorem dX11_set_32 : decode cX11_set 32 = .ok (.aload_n 0, 1) := by decide +kernel
theorem dX11_set_33 : decode cX11_set 33 = .ok (.getfield 29, 3) := by decide +kernel
theorem dX11_set_36 : decode cX11_set 36 = .ok (.iload 4, 2) := by decide +kernel
theorem dX11_set_38 : decode cX11_set 38 = .ok (.laload, 1) := by decide +kernel
theorem dX11_set_39 : decode cX11_set 39 = .ok (.invokestatic 182, 3) := by decide +kernel
theorem dX11_set_42 : decode cX11_set 42 = .ok (.lastore, 1) := by decide +kernel
theorem dX11_set_43 : decode cX11_set 43 = .ok (.iload 5, 2) := by decide +kernel
theorem dX11_set_45 : decode cX11_set 45 = .ok (.ireturn, 1) := by decide +kernel
theorem dX11_take_0 : decode cX11_take 0 = .ok (.aload_n 0, 1) := by decide +kernel
theorem dX11_take_1 : decode cX11_take 1 = .ok (.iload_n 2, 1) := by decide +kernel
theorem dX11_take_2 : decode cX11_take 2 = .ok (.iload_n 3, 1) := by decide +kernel
theorem dX11_take_3 : decode cX11_take 3 = .ok (.iload 4, 2) := by decide +kernel
theorem dX11_take_5 : decode cX11_take 5 = .ok (.invokevirtual 170, 3) := by decide +kernel
theorem dX11_take_8 : decode cX11_take 8 = .ok (.istore 5, 2) := by decide +kernel
theorem dX11_take_10 : decode cX11_take 10 = .ok (.iload 5, 2) := by decide +kernel
theorem dX11_take_12 : decode cX11_take 12 = .ok (.ifCond .ne 29, 3) := by decide +kernel
theorem dX11_take_15 : decode cX11_take 15 = .ok (.aload_n 0, 1) := by decide +kernel
theorem dX11_take_16 : decode cX11_take 16 = .ok (.getfield 26, 3) := by decide +kernel
theorem dX11_take_19 : decode cX11_take 19 = .ok (.iload_n 1, 1) := by decide +kernel
theorem dX11_take_20 : decode cX11_take 20 = .ok (.aload_n 0, 1) := by decide +kernel
theorem dX11_take_21 : decode cX11_take 21 = .ok (.getfield 22, 3) := by decide +kernel
theorem dX11_take_24 : decode cX11_take 24 = .ok (.aload_n 0, 1) := by decide +kernel
theorem dX11_take_25 : decode cX11_take 25 = .ok (.getfield 13, 3) := by decide +kernel
theorem dX11_take_28 : decode cX11_take 28 = .ok (.aload_n 0, 1) := by decide +kernel
theorem dX11_take_29 : decode cX11_take 29 = .ok (.getfield 26, 3) := by decide +kernel
theorem dX11_take_32 : decode cX11_take 32 = .ok (.iload_n 2, 1) := by decide +kernel
theorem dX11_take_33 : decode cX11_take 33 = .ok (.iaload, 1) := by decide +kernel
theorem dX11_take_34 : decode cX11_take 34 = .ok (.iaload, 1) := by decide +kernel
theorem dX11_take_35 : decode cX11_take 35 = .ok (.iload 4, 2) := by decide +kernel
theorem dX11_take_37 : decode cX11_take 37 = .ok (.iadd, 1) := by decide +kernel
theorem dX11_take_38 : decode cX11_take 38 = .ok (.laload, 1) := by decide +kernel
theorem dX11_take_39 : decode cX11_take 39 = .ok (.l2i, 1) := by decide +kernel
theorem dX11_take_40 : decode cX11_take 40 = .ok (.iastore, 1) := by decide +kernel
theorem dX11_take_41 : decode cX11_take 41 = .ok (.iload 5, 2) := by decide +kernel
theorem dX11_take_43 : decode cX11_take 43 = .ok (.ireturn, 1) := by decide +kernel
theorem dX11_cloned_0 : decode cX11_cloned 0 = .ok (.aload_n 0, 1) := by decide +kernel
theorem dX11_cloned_1 : decode cX11_cloned 1 = .ok (.iload_n 2, 1) := by decide +kernel
theorem dX11_cloned_2 : decode cX11_cloned 2 = .ok (.iconst 1, 1) := by decide +kernel
theorem dX11_cloned_3 : decode cX11_cloned 3 = .ok (.invokevirtual 154, 3) := by decide +kernel
theorem dX11_cloned_6 : decode cX11_cloned 6 = .ok (.istore_n 3, 1) := by decide +kernel
theorem dX11_cloned_7 : decode cX11_cloned 7 = .ok (.iload_n 3, 1) := by decide +kernel
theorem dX11_cloned_8 : decode cX11_cloned 8 = .ok (.ifCond .eq 5, 3) := by decide +kernel
theorem dX11_cloned_11 : decode cX11_cloned 11 = .ok (.iload_n 3, 1) := by decide +kernel
theorem dX11_cloned_12 : decode cX11_cloned 12 = .ok (.ireturn, 1) := by decide +kernel
theorem dX11_cloned_13 : decode cX11_cloned 13 = .ok (.aload_n 0, 1) := by decide +kernel
theorem dX11_cloned_14 : decode cX11_cloned 14 = .ok (.getfield 16, 3) := by decide +kernel
theorem dX11_cloned_17 : decode cX11_cloned 17 = .ok (.aload_n 0, 1) := by decide +kernel
theorem dX11_cloned_18 : decode cX11_cloned 18 = .ok (.getfield 26, 3) := by decide +kernel
theorem dX11_cloned_21 : decode cX11_cloned 21 = .ok (.iload_n 2, 1) := by decide +kernel
theorem dX11_cloned_22 : decode cX11_cloned 22 = .ok (.iaload, 1) := by decide +kernel
theorem dX11_cloned_23 : decode cX11_cloned 23 = .ok (.iaload, 1) := by decide +kernel
theorem dX11_cloned_24 : decode cX11_cloned 24 = .ok (.istore 4, 2) := by decide +kernel
theorem dX11_cloned_26 : decode cX11_cloned 26 = .ok (.aload_n 0, 1) := by decide +kernel
theorem dX11_cloned_27 : decode cX11_cloned 27 = .ok (.lconst 1, 1) := by decide +kernel
theorem dX11_cloned_28 : decode cX11_cloned 28 = .ok (.iload 4, 2) := by decide +kernel
theorem dX11_cloned_30 : decode cX11_cloned 30 = .ok (.i2l, 1) := by decide +kernel
theorem dX11_cloned_31 : decode cX11_cloned 31 = .ok (.invokevirtual 157, 3) := by decide +kernel
theorem dX11_cloned_34 : decode cX11_cloned 34 = .ok (.ifCond .ne 6, 3) := by decide +kernel
theorem dX11_cloned_37 : decode cX11_cloned 37 = .ok (.bipush 8, 2) := by decide +kernel
theorem dX11_cloned_39 : decode cX11_cloned 39 = .ok (.ireturn, 1) := by decide +kernel
theorem dX11_cloned_40 : decode cX11_cloned 40 = .ok (.aload_n 0, 1) := by decide +kernel
theorem dX11_cloned_41 : decode cX11_cloned 41 = .ok (.getfield 13, 3) := by decide +kernel
theorem dX11_cloned_44 : decode cX11_cloned 44 = .ok (.aload_n 0, 1) := by decide +kernel
theorem dX11_cloned_45 : decode cX11_cloned 45 = .ok (.getfield 26, 3) := by decide +kernel
theorem dX11_cloned_48 : decode cX11_cloned 48 = .ok (.iload_n 2, 1) := by decide +kernel
theorem dX11_cloned_49 : decode cX11_cloned 49 = .ok (.iaload, 1) := by decide +kernel
theorem dX11_cloned_50 : decode cX11_cloned 50 = .ok (.iaload, 1) := by decide +kernel
theorem dX11_cloned_51 : decode cX11_cloned 51 = .ok (.istore 5, 2) := by decide +kernel
theorem dX11_cloned_53 : decode cX11_cloned 53 = .ok (.aload_n 0, 1) := by decide +kernel
theorem dX11_cloned_54 : decode cX11_cloned 54 = .ok (.getfield 26, 3) := by decide +kernel
theorem dX11_cloned_57 : decode cX11_cloned 57 = .ok (.iload_n 1, 1) := by decide +kernel
theorem dX11_cloned_58 : decode cX11_cloned 58 = .ok (.aload_n 0, 1) := by decide +kernel
theorem dX11_cloned_59 : decode cX11_cloned 59 = .ok (.iconst 1, 1) := by decide +kernel
theorem dX11_cloned_60 : decode cX11_cloned 60 = .ok (.iload 4, 2) := by decide +kernel
theorem dX11_cloned_62 : decode cX11_cloned 62 = .ok (.invokevirtual 161, 3) := by decide +kernel
theorem dX11_cloned_65 : decode cX11_cloned 65 = .ok (.iastore, 1) := by decide +kernel
theorem dX11_cloned_66 : decode cX11_cloned 66 = .ok (.iconst 0, 1) := by decide +kernel
theorem dX11_cloned_67 : decode cX11_cloned 67 = .ok (.istore 6, 2) := by decide +kernel
theorem dX11_cloned_69 : decode cX11_cloned 69 = .ok (.iload 6, 2) := by decide +kernel
theorem dX11_cloned_71 : decode cX11_cloned 71 = .ok (.iload 4, 2) := by decide +kernel
theorem dX11_cloned_73 : decode cX11_cloned 73 = .ok (.if_icmp .ge 38, 3) := by decide +kernel
theorem dX11_cloned_76 : decode cX11_cloned 76 = .ok (.aload_n 0, 1) := by decide +kernel
theorem dX11_cloned_77 : decode cX11_cloned 77 = .ok (.getfield 22, 3) := by decide +kernel
theorem dX11_cloned_80 : decode cX11_cloned 80 = .ok (.aload_n 0, 1) := by decide +kernel
theorem dX11_cloned_81 : decode cX11_cloned 81 = .ok (.getfield 13, 3) := by decide +kernel
theorem dX11_cloned_84 : decode cX11_cloned 84 = .ok (.aload_n 0, 1) := by decide +kernel
theorem dX11_cloned_85 : decode cX11_cloned 85 = .ok (.getfield 26, 3) := by decide +kernel
theorem dX11_cloned_88 : decode cX11_cloned 88 = .ok (.iload_n 1, 1) := by decide +kernel
theorem dX11_cloned_89 : decode cX11_cloned 89 = .ok (.iaload, 1) := by decide +kernel
theorem dX11_cloned_90 : decode cX11_cloned 90 = .ok (.iaload, 1) := by decide +kernel
theorem dX11_cloned_91 : decode cX11_cloned 91 = .ok (.iload 6, 2) := by decide +kernel
theorem dX11_cloned_93 : decode cX11_cloned 93 = .ok (.iadd, 1) := by decide +kernel
theorem dX11_cloned_94 : decode cX11_cloned 94 = .ok (.aload_n 0, 1) := by decide +kernel
theorem dX11_cloned_95 : decode cX11_cloned 95 = .ok (.getfield 22, 3) := by decide +kernel
theorem dX11_cloned_98 : decode cX11_cloned 98 = .ok (.iload 5, 2) := by decide +kernel
theorem dX11_cloned_100 : decode cX11_cloned 100 = .ok (.iload 6, 2) := by decide +kernel
theorem dX11_cloned_102 : decode cX11_cloned 102 = .ok (.iadd, 1) := by decide +kernel
theorem dX11_cloned_103 : decode cX11_cloned 103 = .ok (.laload, 1) := by decide +kernel
theorem dX11_cloned_104 : decode cX11_cloned 104 = .ok (.lastore, 1) := by decide +kernel
theorem dX11_cloned_105 : decode cX11_cloned 105 = .ok (.iinc 6 1, 3) := by decide +kernel
theorem dX11_cloned_108 : decode cX11_cloned 108 = .ok (.goto (-39), 3) := by decide +kernel
theorem dX11_cloned_111 : decode cX11_cloned 111 = .ok (.iconst 0, 1) := by decide +kernel
theorem dX11_cloned_112 : decode cX11_cloned 112 = .ok (.ireturn, 1) := by decide +kernel
theorem dX11_measure_0 : decode cX11_measure 0 = .ok (.aload_n 0, 1) := by decide +kernel
theorem dX11_measure_1 : decode cX11_measure 1 = .ok (.iload_n 2, 1) := by decide +kernel
theorem dX11_measure_2 : decode cX11_measure 2 = .ok (.iload_n 3, 1) := by decide +kernel
theorem dX11_measure_3 : decode cX11_measure 3 = .ok (.invokevirtual 154, 3) := by decide +kernel
theorem dX11_measure_6 : decode cX11_measure 6 = .ok (.istore 4, 2) := by decide +kernel
theorem dX11_measure_8 : decode cX11_measure 8 = .ok (.iload 4, 2) := by decide +kernel
theorem dX11_measure_10 : decode cX11_measure 10 = .ok (.ifCond .ne 21, 3) := by decide +kernel
theorem dX11_measure_13 : decode cX11_measure 13 = .ok (.aload_n 0, 1) := by decide +kernel
theorem dX11_measure_14 : decode cX11_measure 14 = .ok (.getfield 29, 3) := by decide +kernel
theorem dX11_measure_17 : decode cX11_measure 17 = .ok (.iload_n 1, 1) := by decide +kernel
theorem dX11_measure_18 : decode cX11_measure 18 = .ok (.aload_n 0, 1) := by decide +kernel
theorem dX11_measure_19 : decode cX11_measure 19 = .ok (.getfield 16, 3) := by decide +kernel
theorem dX11_measure_22 : decode cX11_measure 22 = .ok (.aload_n 0, 1) := by decide +kernel
theorem dX11_measure_23 : decode cX11_measure 23 = .ok (.getfield 26, 3) := by decide +kernel
theorem dX11_measure_26 : decode cX11_measure 26 = .ok (.iload_n 2, 1) := by decide +kernel
theorem dX11_measure_27 : decode cX11_measure 27 = .ok (.iaload, 1) := by decide +kernel
theorem dX11_measure_28 : decode cX11_measure 28 = .ok (.iaload, 1) := by decide +kernel
theorem dX11_measure_29 : decode cX11_measure 29 = .ok (.i2l, 1) := by decide +kernel
theorem dX11_measure_30 : decode cX11_measure 30 = .ok (.lastore, 1) := by decide +kernel
theorem dX11_measure_31 : decode cX11_measure 31 = .ok (.iload 4, 2) := by decide +kernel
theorem dX11_measure_33 : decode cX11_measure 33 = .ok (.ireturn, 1) := by decide +kernel
theorem dX11_move_0 : decode cX11_move 0 = .ok (.iload_n 3, 1) := by decide +kernel
theorem dX11_move_1 : decode cX11_move 1 = .ok (.ifCond .ne 7, 3) := by decide +kernel
theorem dX11_move_4 : decode cX11_move 4 = .ok (.iconst 0, 1) := by decide +kernel
theorem dX11_move_5 : decode cX11_move 5 = .ok (.goto 9, 3) := by decide +kernel
theorem dX11_move_8 : decode cX11_move 8 = .ok (.aload_n 0, 1) := by decide +kernel
theorem dX11_move_9 : decode cX11_move 9 = .ok (.iload_n 2, 1) := by decide +kernel
theorem dX11_move_10 : decode cX11_move 10 = .ok (.iload_n 3, 1) := by decide +kernel
theorem dX11_move_11 : decode cX11_move 11 = .ok (.invokevirtual 150, 3) := by decide +kernel
theorem dX11_move_14 : decode cX11_move 14 = .ok (.istore 4, 2) := by decide +kernel
theorem dX11_move_16 : decode cX11_move 16 = .ok (.iload 4, 2) := by decide +kernel
theorem dX11_move_18 : decode cX11_move 18 = .ok (.ifCond .ne 15, 3) := by decide +kernel
theorem dX11_move_21 : decode cX11_move 21 = .ok (.aload_n 0, 1) := by decide +kernel
theorem dX11_move_22 : decode cX11_move 22 = .ok (.getfield 26, 3) := by decide +kernel
theorem dX11_move_25 : decode cX11_move 25 = .ok (.iload_n 1, 1) := by decide +kernel
theorem dX11_move_26 : decode cX11_move 26 = .ok (.aload_n 0, 1) := by decide +kernel
theorem dX11_move_27 : decode cX11_move 27 = .ok (.getfield 26, 3) := by decide +kernel
theorem dX11_move_30 : decode cX11_move 30 = .ok (.iload_n 2, 1) := by decide +kernel
theorem dX11_move_31 : decode cX11_move 31 = .ok (.iaload, 1) := by decide +kernel
theorem dX11_move_32 : decode cX11_move 32 = .ok (.iastore, 1) := by decide +kernel
theorem dX11_move_33 : decode cX11_move 33 = .ok (.iload 4, 2) := by decide +kernel
theorem dX11_move_35 : decode cX11_move 35 = .ok (.ireturn, 1) := by decide +kernel
theorem dX11_done_0 : decode cX11_done 0 = .ok (.aload_n 0, 1) := by decide +kernel
theorem dX11_done_1 : decode cX11_done 1 = .ok (.getfield 38, 3) := by decide +kernel
theorem dX11_done_4 : decode cX11_done 4 = .ok (.iload_n 1, 1) := by decide +kernel
theorem dX11_done_5 : decode cX11_done 5 = .ok (.iaload, 1) := by decide +kernel
theorem dX11_done_6 : decode cX11_done 6 = .ok (.istore_n 2, 1) := by decide +kernel
theorem dX11_done_7 : decode cX11_done 7 = .ok (.aload_n 0, 1) := by decide +kernel
theorem dX11_done_8 : decode cX11_done 8 = .ok (.getfield 41, 3) := by decide +kernel
theorem dX11_done_11 : decode cX11_done 11 = .ok (.iload_n 1, 1) := by decide +kernel
theorem dX11_done_12 : decode cX11_done 12 = .ok (.iaload, 1) := by decide +kernel
theorem dX11_done_13 : decode cX11_done 13 = .ok (.istore_n 3, 1) := by decide +kernel
theorem dX11_done_14 : decode cX11_done 14 = .ok (.aload_n 0, 1) := by decide +kernel
theorem dX11_done_15 : decode cX11_done 15 = .ok (.getfield 44, 3) := by decide +kernel
theorem dX11_done_18 : decode cX11_done 18 = .ok (.iload_n 1, 1) := by decide +kernel
theorem dX11_done_19 : decode cX11_done 19 = .ok (.iaload, 1) := by decide +kernel
theorem dX11_done_20 : decode cX11_done 20 = .ok (.istore 4, 2) := by decide +kernel
theorem dX11_done_22 : decode cX11_done 22 = .ok (.aload_n 0, 1) := by decide +kernel
theorem dX11_done_23 : decode cX11_done 23 = .ok (.getfield 47, 3) := by decide +kernel
theorem dX11_done_26 : decode cX11_done 26 = .ok (.iload_n 1, 1) := by decide +kernel
theorem dX11_done_27 : decode cX11_done 27 = .ok (.iaload, 1) := by decide +kernel
theorem dX11_done_28 : decode cX11_done 28 = .ok (.istore 5, 2) := by decide +kernel
theorem dX11_done_30 : decode cX11_done 30 = .ok (.aload_n 0, 1) := by decide +kernel
theorem dX11_done_31 : decode cX11_done 31 = .ok (.getfield 35, 3) := by decide +kernel
theorem dX11_done_34 : decode cX11_done 34 = .ok (.iload_n 1, 1) := by decide +kernel
theorem dX11_done_35 : decode cX11_done 35 = .ok (.iaload, 1) := by decide +kernel
theorem dX11_done_36 : decode cX11_done 36 = .ok (.tableswitch 281 0 16 #[84, 93, 102, 110, 129, 138, 149, 160, 171, 182, 191, 198, 205, 224, 234, 256, 256], 84) := by decide +kernel
theorem dX11_done_120 : decode cX11_done 120 = .ok (.aload_n 0, 1) := by decide +kernel
theorem dX11_done_121 : decode cX11_done 121 = .ok (.iload_n 2, 1) := by decide +kernel
theorem dX11_done_122 : decode cX11_done 122 = .ok (.iload_n 3, 1) := by decide +kernel
theorem dX11_done_123 : decode cX11_done 123 = .ok (.iload 4, 2) := by decide +kernel
theorem dX11_done_125 : decode cX11_done 125 = .ok (.invokevirtual 186, 3) := by decide +kernel
theorem dX11_done_128 : decode cX11_done 128 = .ok (.ireturn, 1) := by decide +kernel
theorem dX11_done_129 : decode cX11_done 129 = .ok (.aload_n 0, 1) := by decide +kernel
theorem dX11_done_130 : decode cX11_done 130 = .ok (.iload_n 2, 1) := by decide +kernel
theorem dX11_done_131 : decode cX11_done 131 = .ok (.iload_n 3, 1) := by decide +kernel
theorem dX11_done_132 : decode cX11_done 132 = .ok (.iload 4, 2) := by decide +kernel
theorem dX11_done_134 : decode cX11_done 134 = .ok (.invokevirtual 189, 3) := by decide +kernel
theorem dX11_done_137 : decode cX11_done 137 = .ok (.ireturn, 1) := by decide +kernel
theorem dX11_done_138 : decode cX11_done 138 = .ok (.aload_n 0, 1) := by decide +kernel
theorem dX11_done_139 : decode cX11_done 139 = .ok (.iload_n 2, 1) := by decide +kernel
theorem dX11_done_140 : decode cX11_done 140 = .ok (.iconst 5, 1) := by decide +kernel
theorem dX11_done_141 : decode cX11_done 141 = .ok (.iload_n 3, 1) := by decide +kernel
theorem dX11_done_142 : decode cX11_done 142 = .ok (.invokevirtual 186, 3) := by decide +kernel
theorem dX11_done_145 : decode cX11_done 145 = .ok (.ireturn, 1) := by decide +kernel
theorem dX11_done_146 : decode cX11_done 146 = .ok (.aload_n 0, 1) := by decide +kernel
theorem dX11_done_147 : decode cX11_done 147 = .ok (.iload_n 2, 1) := by decide +kernel
theorem dX11_done_148 : decode cX11_done 148 = .ok (.iload_n 3, 1) := by decide +kernel
theorem dX11_done_149 : decode cX11_done 149 = .ok (.ifCond .ne 8, 3) := by decide +kernel
theorem dX11_done_152 : decode cX11_done 152 = .ok (.bipush 8, 2) := by decide +kernel
theorem dX11_done_154 : decode cX11_done 154 = .ok (.goto 5, 3) := by decide +kernel
theorem dX11_done_157 : decode cX11_done 157 = .ok (.bipush 9, 2) := by decide +kernel
theorem dX11_done_159 : decode cX11_done 159 = .ok (.iload 4, 2) := by decide +kernel
theorem dX11_done_161 : decode cX11_done 161 = .ok (.invokevirtual 192, 3) := by decide +kernel
theorem dX11_done_164 : decode cX11_done 164 = .ok (.ireturn, 1) := by decide +kernel
theorem dX11_done_165 : decode cX11_done 165 = .ok (.aload_n 0, 1) := by decide +kernel
theorem dX11_done_166 : decode cX11_done 166 = .ok (.iload_n 2, 1) := by decide +kernel
theorem dX11_done_167 : decode cX11_done 167 = .ok (.iload_n 3, 1) := by decide +kernel
theorem dX11_done_168 : decode cX11_done 168 = .ok (.iload 4, 2) := by decide +kernel
theorem dX11_done_170 : decode cX11_done 170 = .ok (.invokevirtual 195, 3) := by decide +kernel
theorem dX11_done_173 : decode cX11_done 173 = .ok (.ireturn, 1) := by decide +kernel
theorem dX11_done_174 : decode cX11_done 174 = .ok (.aload_n 0, 1) := by decide +kernel
theorem dX11_done_175 : decode cX11_done 175 = .ok (.iload_n 2, 1) := by decide +kernel
theorem dX11_done_176 : decode cX11_done 176 = .ok (.iload_n 3, 1) := by decide +kernel
theorem dX11_done_177 : decode cX11_done 177 = .ok (.iload 4, 2) := by decide +kernel
theorem dX11_done_179 : decode cX11_done 179 = .ok (.iload 5, 2) := by decide +kernel
theorem dX11_done_181 : decode cX11_done 181 = .ok (.invokevirtual 198, 3) := by decide +kernel
theorem dX11_done_184 : decode cX11_done 184 = .ok (.ireturn, 1) := by decide +kernel
theorem dX11_done_185 : decode cX11_done 185 = .ok (.aload_n 0, 1) := by decide +kernel
theorem dX11_done_186 : decode cX11_done 186 = .ok (.iload_n 2, 1) := by decide +kernel
theorem dX11_done_187 : decode cX11_done 187 = .ok (.iload_n 3, 1) := by decide +kernel
theorem dX11_done_188 : decode cX11_done 188 = .ok (.iload 4, 2) := by decide +kernel
theorem dX11_done_190 : decode cX11_done 190 = .ok (.iload 5, 2) := by decide +kernel
theorem dX11_done_192 : decode cX11_done 192 = .ok (.invokevirtual 202, 3) := by decide +kernel
theorem dX11_done_195 : decode cX11_done 195 = .ok (.ireturn, 1) := by decide +kernel
theorem dX11_done_196 : decode cX11_done 196 = .ok (.aload_n 0, 1) := by decide +kernel
theorem dX11_done_197 : decode cX11_done 197 = .ok (.iload_n 2, 1) := by decide +kernel
theorem dX11_done_198 : decode cX11_done 198 = .ok (.iload_n 3, 1) := by decide +kernel
theorem dX11_done_199 : decode cX11_done 199 = .ok (.iload 4, 2) := by decide +kernel
theorem dX11_done_201 : decode cX11_done 201 = .ok (.iload 5, 2) := by decide +kernel
theorem dX11_done_203 : decode cX11_done 203 = .ok (.invokevirtual 205, 3) := by decide +kernel
theorem dX11_done_206 : decode cX11_done 206 = .ok (.ireturn, 1) := by decide +kernel
theorem dX11_done_207 : decode cX11_done 207 = .ok (.aload_n 0, 1) := by decide +kernel
theorem dX11_done_208 : decode cX11_done 208 = .ok (.iload_n 2, 1) := by decide +kernel
theorem dX11_done_209 : decode cX11_done 209 = .ok (.iload_n 3, 1) := by decide +kernel
theorem dX11_done_210 : decode cX11_done 210 = .ok (.iload 4, 2) := by decide +kernel
theorem dX11_done_212 : decode cX11_done 212 = .ok (.iload 5, 2) := by decide +kernel
theorem dX11_done_214 : decode cX11_done 214 = .ok (.invokevirtual 208, 3) := by decide +kernel
theorem dX11_done_217 : decode cX11_done 217 = .ok (.ireturn, 1) := by decide +kernel
theorem dX11_done_218 : decode cX11_done 218 = .ok (.aload_n 0, 1) := by decide +kernel
theorem dX11_done_219 : decode cX11_done 219 = .ok (.iload_n 2, 1) := by decide +kernel
theorem dX11_done_220 : decode cX11_done 220 = .ok (.iload_n 3, 1) := by decide +kernel
theorem dX11_done_221 : decode cX11_done 221 = .ok (.iload 4, 2) := by decide +kernel
theorem dX11_done_223 : decode cX11_done 223 = .ok (.invokevirtual 211, 3) := by decide +kernel
theorem dX11_done_226 : decode cX11_done 226 = .ok (.ireturn, 1) := by decide +kernel
theorem dX11_done_227 : decode cX11_done 227 = .ok (.aload_n 0, 1) := by decide +kernel
theorem dX11_done_228 : decode cX11_done 228 = .ok (.iload_n 2, 1) := by decide +kernel
theorem dX11_done_229 : decode cX11_done 229 = .ok (.iload_n 3, 1) := by decide +kernel
theorem dX11_done_230 : decode cX11_done 230 = .ok (.invokevirtual 214, 3) := by decide +kernel
theorem dX11_done_233 : decode cX11_done 233 = .ok (.ireturn, 1) := by decide +kernel
theorem dX11_done_234 : decode cX11_done 234 = .ok (.aload_n 0, 1) := by decide +kernel
theorem dX11_done_235 : decode cX11_done 235 = .ok (.iload_n 2, 1) := by decide +kernel
theorem dX11_done_236 : decode cX11_done 236 = .ok (.iload_n 3, 1) := by decide +kernel
theorem dX11_done_237 : decode cX11_done 237 = .ok (.invokevirtual 217, 3) := by decide +kernel
theorem dX11_done_240 : decode cX11_done 240 = .ok (.ireturn, 1) := by decide +kernel
theorem dX11_done_241 : decode cX11_done 241 = .ok (.aload_n 0, 1) := by decide +kernel
theorem dX11_done_242 : decode cX11_done 242 = .ok (.iload_n 2, 1) := by decide +kernel
theorem dX11_done_243 : decode cX11_done 243 = .ok (.iload_n 3, 1) := by decide +kernel
theorem dX11_done_244 : decode cX11_done 244 = .ok (.iload 4, 2) := by decide +kernel
theorem dX11_done_246 : decode cX11_done 246 = .ok (.iload 5, 2) := by decide +kernel
theorem dX11_done_248 : decode cX11_done 248 = .ok (.aload_n 0, 1) := by decide +kernel
theorem dX11_done_249 : decode cX11_done 249 = .ok (.getfield 29, 3) := by decide +kernel
theorem dX11_done_252 : decode cX11_done 252 = .ok (.bipush 7, 2) := by decide +kernel
theorem dX11_done_254 : decode cX11_done 254 = .ok (.laload, 1) := by decide +kernel
theorem dX11_done_255 : decode cX11_done 255 = .ok (.l2i, 1) := by decide +kernel
theorem dX11_done_256 : decode cX11_done 256 = .ok (.invokevirtual 220, 3) := by decide +kernel
theorem dX11_done_259 : decode cX11_done 259 = .ok (.ireturn, 1) := by decide +kernel
theorem dX11_done_260 : decode cX11_done 260 = .ok (.aload_n 0, 1) := by decide +kernel
theorem dX11_done_261 : decode cX11_done 261 = .ok (.getfield 29, 3) := by decide +kernel
theorem dX11_done_264 : decode cX11_done 264 = .ok (.iload_n 2, 1) := by decide +kernel
theorem dX11_done_265 : decode cX11_done 265 = .ok (.iload_n 3, 1) := by decide +kernel
theorem dX11_done_266 : decode cX11_done 266 = .ok (.i2l, 1) := by decide +kernel
theorem dX11_done_267 : decode cX11_done 267 = .ok (.lastore, 1) := by decide +kernel
theorem dX11_done_268 : decode cX11_done 268 = .ok (.iconst 0, 1) := by decide +kernel
theorem dX11_done_269 : decode cX11_done 269 = .ok (.ireturn, 1) := by decide +kernel
theorem dX11_done_270 : decode cX11_done 270 = .ok (.aload_n 0, 1) := by decide +kernel
theorem dX11_done_271 : decode cX11_done 271 = .ok (.getfield 29, 3) := by decide +kernel
theorem dX11_done_274 : decode cX11_done 274 = .ok (.iload_n 2, 1) := by decide +kernel
theorem dX11_done_275 : decode cX11_done 275 = .ok (.aload_n 0, 1) := by decide +kernel
theorem dX11_done_276 : decode cX11_done 276 = .ok (.getfield 29, 3) := by decide +kernel
theorem dX11_done_279 : decode cX11_done 279 = .ok (.iload_n 3, 1) := by decide +kernel
theorem dX11_done_280 : decode cX11_done 280 = .ok (.laload, 1) := by decide +kernel
theorem dX11_done_281 : decode cX11_done 281 = .ok (.aload_n 0, 1) := by decide +kernel
theorem dX11_done_282 : decode cX11_done 282 = .ok (.getfield 29, 3) := by decide +kernel
theorem dX11_done_285 : decode cX11_done 285 = .ok (.iload 4, 2) := by decide +kernel
theorem dX11_done_287 : decode cX11_done 287 = .ok (.laload, 1) := by decide +kernel
theorem dX11_done_288 : decode cX11_done 288 = .ok (.ladd, 1) := by decide +kernel
theorem dX11_done_289 : decode cX11_done 289 = .ok (.lastore, 1) := by decide +kernel
theorem dX11_done_290 : decode cX11_done 290 = .ok (.iconst 0, 1) := by decide +kernel
theorem dX11_done_291 : decode cX11_done 291 = .ok (.ireturn, 1) := by decide +kernel
theorem dX11_done_292 : decode cX11_done 292 = .ok (.aload_n 0, 1) := by decide +kernel
theorem dX11_done_293 : decode cX11_done 293 = .ok (.iload_n 2, 1) := by decide +kernel
theorem dX11_done_294 : decode cX11_done 294 = .ok (.iload_n 3, 1) := by decide +kernel
theorem dX11_done_295 : decode cX11_done 295 = .ok (.iload 4, 2) := by decide +kernel
theorem dX11_done_297 : decode cX11_done 297 = .ok (.aload_n 0, 1) := by decide +kernel
theorem dX11_done_298 : decode cX11_done 298 = .ok (.getfield 35, 3) := by decide +kernel
theorem dX11_done_301 : decode cX11_done 301 = .ok (.iload_n 1, 1) := by decide +kernel
theorem dX11_done_302 : decode cX11_done 302 = .ok (.iaload, 1) := by decide +kernel
theorem dX11_done_303 : decode cX11_done 303 = .ok (.bipush 16, 2) := by decide +kernel
theorem dX11_done_305 : decode cX11_done 305 = .ok (.if_icmp .ne 7, 3) := by decide +kernel
theorem dX11_done_308 : decode cX11_done 308 = .ok (.iconst 1, 1) := by decide +kernel
theorem dX11_done_309 : decode cX11_done 309 = .ok (.goto 4, 3) := by decide +kernel
theorem dX11_done_312 : decode cX11_done 312 = .ok (.iconst 0, 1) := by decide +kernel
theorem dX11_done_313 : decode cX11_done 313 = .ok (.invokevirtual 224, 3) := by decide +kernel
theorem dX11_done_316 : decode cX11_done 316 = .ok (.ireturn, 1) := by decide +kernel
theorem dX11_done_317 : decode cX11_done 317 = .ok (.bipush 7, 2) := by decide +kernel
theorem dX11_done_319 : decode cX11_done 319 = .ok (.ireturn, 1) := by decide +kernel
theorem dX11_push_0 : decode cX11_push 0 = .ok (.aload_n 0, 1) := by decide +kernel
theorem dX11_push_1 : decode cX11_push 1 = .ok (.dup, 1) := by decide +kernel
theorem dX11_push_2 : decode cX11_push 2 = .ok (.getfield 228, 3) := by decide +kernel
theorem dX11_push_5 : decode cX11_push 5 = .ok (.iconst 1, 1) := by decide +kernel
theorem dX11_push_6 : decode cX11_push 6 = .ok (.iadd, 1) := by decide +kernel
theorem dX11_push_7 : decode cX11_push 7 = .ok (.putfield 228, 3) := by decide +kernel
theorem dX11_push_10 : decode cX11_push 10 = .ok (.aload_n 0, 1) := by decide +kernel
theorem dX11_push_11 : decode cX11_push 11 = .ok (.getfield 60, 3) := by decide +kernel
theorem dX11_push_14 : decode cX11_push 14 = .ok (.aload_n 0, 1) := by decide +kernel
theorem dX11_push_15 : decode cX11_push 15 = .ok (.getfield 228, 3) := by decide +kernel
theorem dX11_push_18 : decode cX11_push 18 = .ok (.iload_n 1, 1) := by decide +kernel
theorem dX11_push_19 : decode cX11_push 19 = .ok (.iastore, 1) := by decide +kernel
theorem dX11_push_20 : decode cX11_push 20 = .ok (.aload_n 0, 1) := by decide +kernel
theorem dX11_push_21 : decode cX11_push 21 = .ok (.getfield 63, 3) := by decide +kernel
theorem dX11_push_24 : decode cX11_push 24 = .ok (.aload_n 0, 1) := by decide +kernel
theorem dX11_push_25 : decode cX11_push 25 = .ok (.getfield 228, 3) := by decide +kernel
theorem dX11_push_28 : decode cX11_push 28 = .ok (.iconst 0, 1) := by decide +kernel
theorem dX11_push_29 : decode cX11_push 29 = .ok (.iastore, 1) := by decide +kernel
theorem dX11_push_30 : decode cX11_push 30 = .ok (.aload_n 0, 1) := by decide +kernel
theorem dX11_push_31 : decode cX11_push 31 = .ok (.getfield 66, 3) := by decide +kernel
theorem dX11_push_34 : decode cX11_push 34 = .ok (.aload_n 0, 1) := by decide +kernel
theorem dX11_push_35 : decode cX11_push 35 = .ok (.getfield 228, 3) := by decide +kernel
theorem dX11_push_38 : decode cX11_push 38 = .ok (.iconst 0, 1) := by decide +kernel
theorem dX11_push_39 : decode cX11_push 39 = .ok (.iastore, 1) := by decide +kernel
theorem dX11_push_40 : decode cX11_push 40 = .ok (.return_, 1) := by decide +kernel
theorem dX11_step_0 : decode cX11_step 0 = .ok (.aload_n 0, 1) := by decide +kernel
theorem dX11_step_1 : decode cX11_step 1 = .ok (.getfield 63, 3) := by decide +kernel
theorem dX11_step_4 : decode cX11_step 4 = .ok (.aload_n 0, 1) := by decide +kernel
theorem dX11_step_5 : decode cX11_step 5 = .ok (.getfield 228, 3) := by decide +kernel
theorem dX11_step_8 : decode cX11_step 8 = .ok (.iload_n 1, 1) := by decide +kernel
theorem dX11_step_9 : decode cX11_step 9 = .ok (.iastore, 1) := by decide +kernel
theorem dX11_step_10 : decode cX11_step 10 = .ok (.aload_n 0, 1) := by decide +kernel
theorem dX11_step_11 : decode cX11_step 11 = .ok (.iload_n 2, 1) := by decide +kernel
theorem dX11_step_12 : decode cX11_step 12 = .ok (.invokevirtual 231, 3) := by decide +kernel
theorem dX11_step_15 : decode cX11_step 15 = .ok (.return_, 1) := by decide +kernel
theorem dX11_ofAct_0 : decode cX11_ofAct 0 = .ok (.aload_n 0, 1) := by decide +kernel
theorem dX11_ofAct_1 : decode cX11_ofAct 1 = .ok (.dup, 1) := by decide +kernel
theorem dX11_ofAct_2 : decode cX11_ofAct 2 = .ok (.getfield 235, 3) := by decide +kernel
theorem dX11_ofAct_5 : decode cX11_ofAct 5 = .ok (.iconst 1, 1) := by decide +kernel
theorem dX11_ofAct_6 : decode cX11_ofAct 6 = .ok (.iadd, 1) := by decide +kernel
theorem dX11_ofAct_7 : decode cX11_ofAct 7 = .ok (.putfield 235, 3) := by decide +kernel
theorem dX11_ofAct_10 : decode cX11_ofAct 10 = .ok (.aload_n 0, 1) := by decide +kernel
theorem dX11_ofAct_11 : decode cX11_ofAct 11 = .ok (.iload_n 1, 1) := by decide +kernel
theorem dX11_ofAct_12 : decode cX11_ofAct 12 = .ok (.invokevirtual 238, 3) := by decide +kernel
theorem dX11_ofAct_15 : decode cX11_ofAct 15 = .ok (.istore_n 2, 1) := by decide +kernel
theorem dX11_ofAct_16 : decode cX11_ofAct 16 = .ok (.aload_n 0, 1) := by decide +kernel
theorem dX11_ofAct_17 : decode cX11_ofAct 17 = .ok (.dup, 1) := by decide +kernel
theorem dX11_ofAct_18 : decode cX11_ofAct 18 = .ok (.getfield 241, 3) := by decide +kernel
theorem dX11_ofAct_21 : decode cX11_ofAct 21 = .ok (.iload_n 2, 1) := by decide +kernel
theorem dX11_ofAct_22 : decode cX11_ofAct 22 = .ok (.ifCond .ne 7, 3) := by decide +kernel
theorem dX11_ofAct_25 : decode cX11_ofAct 25 = .ok (.iconst 0, 1) := by decide +kernel
theorem dX11_ofAct_26 : decode cX11_ofAct 26 = .ok (.goto 4, 3) := by decide +kernel
theorem dX11_ofAct_29 : decode cX11_ofAct 29 = .ok (.iconst 1, 1) := by decide +kernel
theorem dX11_ofAct_30 : decode cX11_ofAct 30 = .ok (.iadd, 1) := by decide +kernel
theorem dX11_ofAct_31 : decode cX11_ofAct 31 = .ok (.putfield 241, 3) := by decide +kernel
theorem dX11_ofAct_34 : decode cX11_ofAct 34 = .ok (.aload_n 0, 1) := by decide +kernel
theorem dX11_ofAct_35 : decode cX11_ofAct 35 = .ok (.iload_n 2, 1) := by decide +kernel
theorem dX11_ofAct_36 : decode cX11_ofAct 36 = .ok (.ifCond .ne 10, 3) := by decide +kernel
theorem dX11_ofAct_39 : decode cX11_ofAct 39 = .ok (.aload_n 0, 1) := by decide +kernel
theorem dX11_ofAct_40 : decode cX11_ofAct 40 = .ok (.getfield 53, 3) := by decide +kernel
theorem dX11_ofAct_43 : decode cX11_ofAct 43 = .ok (.goto 4, 3) := by decide +kernel
theorem dX11_ofAct_46 : decode cX11_ofAct 46 = .ok (.iload_n 1, 1) := by decide +kernel
theorem dX11_ofAct_47 : decode cX11_ofAct 47 = .ok (.putfield 53, 3) := by decide +kernel
theorem dX11_ofAct_50 : decode cX11_ofAct 50 = .ok (.aload_n 0, 1) := by decide +kernel
theorem dX11_ofAct_51 : decode cX11_ofAct 51 = .ok (.dup, 1) := by decide +kernel
theorem dX11_ofAct_52 : decode cX11_ofAct 52 = .ok (.getfield 228, 3) := by decide +kernel
theorem dX11_ofAct_55 : decode cX11_ofAct 55 = .ok (.iconst 1, 1) := by decide +kernel
theorem dX11_ofAct_56 : decode cX11_ofAct 56 = .ok (.isub, 1) := by decide +kernel
theorem dX11_ofAct_57 : decode cX11_ofAct 57 = .ok (.putfield 228, 3) := by decide +kernel
theorem dX11_ofAct_60 : decode cX11_ofAct 60 = .ok (.iload_n 2, 1) := by decide +kernel
theorem dX11_ofAct_61 : decode cX11_ofAct 61 = .ok (.ireturn, 1) := by decide +kernel
theorem dX11_ofGuard_0 : decode cX11_ofGuard 0 = .ok (.aload_n 0, 1) := by decide +kernel
theorem dX11_ofGuard_1 : decode cX11_ofGuard 1 = .ok (.getfield 63, 3) := by decide +kernel
theorem dX11_ofGuard_4 : decode cX11_ofGuard 4 = .ok (.aload_n 0, 1) := by decide +kernel
theorem dX11_ofGuard_5 : decode cX11_ofGuard 5 = .ok (.getfield 228, 3) := by decide +kernel
theorem dX11_ofGuard_8 : decode cX11_ofGuard 8 = .ok (.iaload, 1) := by decide +kernel
theorem dX11_ofGuard_9 : decode cX11_ofGuard 9 = .ok (.istore_n 3, 1) := by decide +kernel
theorem dX11_ofGuard_10 : decode cX11_ofGuard 10 = .ok (.iload_n 3, 1) := by decide +kernel
theorem dX11_ofGuard_11 : decode cX11_ofGuard 11 = .ok (.ifCond .ne 16, 3) := by decide +kernel
theorem dX11_ofGuard_14 : decode cX11_ofGuard 14 = .ok (.aload_n 0, 1) := by decide +kernel
theorem dX11_ofGuard_15 : decode cX11_ofGuard 15 = .ok (.iconst 1, 1) := by decide +kernel
theorem dX11_ofGuard_16 : decode cX11_ofGuard 16 = .ok (.aload_n 0, 1) := by decide +kernel
theorem dX11_ofGuard_17 : decode cX11_ofGuard 17 = .ok (.getfield 38, 3) := by decide +kernel
theorem dX11_ofGuard_20 : decode cX11_ofGuard 20 = .ok (.iload_n 1, 1) := by decide +kernel
theorem dX11_ofGuard_21 : decode cX11_ofGuard 21 = .ok (.iaload, 1) := by decide +kernel
theorem dX11_ofGuard_22 : decode cX11_ofGuard 22 = .ok (.invokevirtual 244, 3) := by decide +kernel
theorem dX11_ofGuard_25 : decode cX11_ofGuard 25 = .ok (.iconst 0, 1) := by decide +kernel
theorem dX11_ofGuard_26 : decode cX11_ofGuard 26 = .ok (.ireturn, 1) := by decide +kernel
theorem dX11_ofGuard_27 : decode cX11_ofGuard 27 = .ok (.iload_n 3, 1) := by decide +kernel
theorem dX11_ofGuard_28 : decode cX11_ofGuard 28 = .ok (.iconst 3, 1) := by decide +kernel
theorem dX11_ofGuard_29 : decode cX11_ofGuard 29 = .ok (.if_icmp .ne 65, 3) := by decide +kernel
theorem dX11_ofGuard_32 : decode cX11_ofGuard 32 = .ok (.aload_n 0, 1) := by decide +kernel
theorem dX11_ofGuard_33 : decode cX11_ofGuard 33 = .ok (.dup, 1) := by decide +kernel
theorem dX11_ofGuard_34 : decode cX11_ofGuard 34 = .ok (.getfield 248, 3) := by decide +kernel
theorem dX11_ofGuard_37 : decode cX11_ofGuard 37 = .ok (.iload_n 2, 1) := by decide +kernel
theorem dX11_ofGuard_38 : decode cX11_ofGuard 38 = .ok (.ifCond .eq 19, 3) := by decide +kernel
theorem dX11_ofGuard_41 : decode cX11_ofGuard 41 = .ok (.aload_n 0, 1) := by decide +kernel
theorem dX11_ofGuard_42 : decode cX11_ofGuard 42 = .ok (.getfield 66, 3) := by decide +kernel
theorem dX11_ofGuard_45 : decode cX11_ofGuard 45 = .ok (.aload_n 0, 1) := by decide +kernel
theorem dX11_ofGuard_46 : decode cX11_ofGuard 46 = .ok (.getfield 228, 3) := by decide +kernel
theorem dX11_ofGuard_49 : decode cX11_ofGuard 49 = .ok (.iaload, 1) := by decide +kernel
theorem dX11_ofGuard_50 : decode cX11_ofGuard 50 = .ok (.ifCond .eq 7, 3) := by decide +kernel
theorem dX11_ofGuard_53 : decode cX11_ofGuard 53 = .ok (.iconst 1, 1) := by decide +kernel
theorem dX11_ofGuard_54 : decode cX11_ofGuard 54 = .ok (.goto 4, 3) := by decide +kernel
theorem dX11_ofGuard_57 : decode cX11_ofGuard 57 = .ok (.iconst 0, 1) := by decide +kernel
theorem dX11_ofGuard_58 : decode cX11_ofGuard 58 = .ok (.iadd, 1) := by decide +kernel
theorem dX11_ofGuard_59 : decode cX11_ofGuard 59 = .ok (.putfield 248, 3) := by decide +kernel
theorem dX11_ofGuard_62 : decode cX11_ofGuard 62 = .ok (.iload_n 2, 1) := by decide +kernel
theorem dX11_ofGuard_63 : decode cX11_ofGuard 63 = .ok (.ifCond .eq 7, 3) := by decide +kernel
theorem dX11_ofGuard_66 : decode cX11_ofGuard 66 = .ok (.iload_n 2, 1) := by decide +kernel
theorem dX11_ofGuard_67 : decode cX11_ofGuard 67 = .ok (.goto 12, 3) := by decide +kernel
theorem dX11_ofGuard_70 : decode cX11_ofGuard 70 = .ok (.aload_n 0, 1) := by decide +kernel
theorem dX11_ofGuard_71 : decode cX11_ofGuard 71 = .ok (.getfield 66, 3) := by decide +kernel
theorem dX11_ofGuard_74 : decode cX11_ofGuard 74 = .ok (.aload_n 0, 1) := by decide +kernel
theorem dX11_ofGuard_75 : decode cX11_ofGuard 75 = .ok (.getfield 228, 3) := by decide +kernel
theorem dX11_ofGuard_78 : decode cX11_ofGuard 78 = .ok (.iaload, 1) := by decide +kernel
theorem dX11_ofGuard_79 : decode cX11_ofGuard 79 = .ok (.istore 4, 2) := by decide +kernel
theorem dX11_ofGuard_81 : decode cX11_ofGuard 81 = .ok (.aload_n 0, 1) := by decide +kernel
theorem dX11_ofGuard_82 : decode cX11_ofGuard 82 = .ok (.dup, 1) := by decide +kernel
theorem dX11_ofGuard_83 : decode cX11_ofGuard 83 = .ok (.getfield 228, 3) := by decide +kernel
theorem dX11_ofGuard_86 : decode cX11_ofGuard 86 = .ok (.iconst 1, 1) := by decide +kernel
theorem dX11_ofGuard_87 : decode cX11_ofGuard 87 = .ok (.isub, 1) := by decide +kernel
theorem dX11_ofGuard_88 : decode cX11_ofGuard 88 = .ok (.putfield 228, 3) := by decide +kernel
theorem dX11_ofGuard_91 : decode cX11_ofGuard 91 = .ok (.iload 4, 2) := by decide +kernel
theorem dX11_ofGuard_93 : decode cX11_ofGuard 93 = .ok (.ireturn, 1) := by decide +kernel
theorem dX11_ofGuard_94 : decode cX11_ofGuard 94 = .ok (.iload_n 3, 1) := by decide +kernel
theorem dX11_ofGuard_95 : decode cX11_ofGuard 95 = .ok (.iconst 1, 1) := by decide +kernel
theorem dX11_ofGuard_96 : decode cX11_ofGuard 96 = .ok (.if_icmp .ne 21, 3) := by decide +kernel
theorem dX11_ofGuard_99 : decode cX11_ofGuard 99 = .ok (.aload_n 0, 1) := by decide +kernel
theorem dX11_ofGuard_100 : decode cX11_ofGuard 100 = .ok (.getfield 41, 3) := by decide +kernel
theorem dX11_ofGuard_103 : decode cX11_ofGuard 103 = .ok (.iload_n 1, 1) := by decide +kernel
theorem dX11_ofGuard_104 : decode cX11_ofGuard 104 = .ok (.iaload, 1) := by decide +kernel
theorem dX11_ofGuard_105 : decode cX11_ofGuard 105 = .ok (.iload_n 2, 1) := by decide +kernel
theorem dX11_ofGuard_106 : decode cX11_ofGuard 106 = .ok (.ishr, 1) := by decide +kernel
theorem dX11_ofGuard_107 : decode cX11_ofGuard 107 = .ok (.iconst 1, 1) := by decide +kernel
theorem dX11_ofGuard_108 : decode cX11_ofGuard 108 = .ok (.iand, 1) := by decide +kernel
theorem dX11_ofGuard_109 : decode cX11_ofGuard 109 = .ok (.iconst 1, 1) := by decide +kernel
theorem dX11_ofGuard_110 : decode cX11_ofGuard 110 = .ok (.if_icmp .ne 7, 3) := by decide +kernel
theorem dX11_ofGuard_113 : decode cX11_ofGuard 113 = .ok (.iconst 1, 1) := by decide +kernel
theorem dX11_ofGuard_114 : decode cX11_ofGuard 114 = .ok (.goto 4, 3) := by decide +kernel
theorem dX11_ofGuard_117 : decode cX11_ofGuard 117 = .ok (.iconst 0, 1) := by decide +kernel
theorem dX11_ofGuard_118 : decode cX11_ofGuard 118 = .ok (.istore 4, 2) := by decide +kernel
theorem dX11_ofGuard_120 : decode cX11_ofGuard 120 = .ok (.iload 4, 2) := by decide +kernel
theorem dX11_ofGuard_122 : decode cX11_ofGuard 122 = .ok (.ifCond .eq 25, 3) := by decide +kernel
theorem dX11_ofGuard_125 : decode cX11_ofGuard 125 = .ok (.aload_n 0, 1) := by decide +kernel
theorem dX11_ofGuard_126 : decode cX11_ofGuard 126 = .ok (.getfield 44, 3) := by decide +kernel
theorem dX11_ofGuard_129 : decode cX11_ofGuard 129 = .ok (.iload_n 1, 1) := by decide +kernel
theorem dX11_ofGuard_130 : decode cX11_ofGuard 130 = .ok (.iaload, 1) := by decide +kernel
theorem dX11_ofGuard_131 : decode cX11_ofGuard 131 = .ok (.ifCond .lt 16, 3) := by decide +kernel
theorem dX11_ofGuard_134 : decode cX11_ofGuard 134 = .ok (.aload_n 0, 1) := by decide +kernel
theorem dX11_ofGuard_135 : decode cX11_ofGuard 135 = .ok (.iconst 2, 1) := by decide +kernel
theorem dX11_ofGuard_136 : decode cX11_ofGuard 136 = .ok (.aload_n 0, 1) := by decide +kernel
theorem dX11_ofGuard_137 : decode cX11_ofGuard 137 = .ok (.getfield 44, 3) := by decide +kernel
theorem dX11_ofGuard_140 : decode cX11_ofGuard 140 = .ok (.iload_n 1, 1) := by decide +kernel
theorem dX11_ofGuard_141 : decode cX11_ofGuard 141 = .ok (.iaload, 1) := by decide +kernel
theorem dX11_ofGuard_142 : decode cX11_ofGuard 142 = .ok (.invokevirtual 244, 3) := by decide +kernel
theorem dX11_ofGuard_145 : decode cX11_ofGuard 145 = .ok (.iconst 0, 1) := by decide +kernel
theorem dX11_ofGuard_146 : decode cX11_ofGuard 146 = .ok (.ireturn, 1) := by decide +kernel
theorem dX11_ofGuard_147 : decode cX11_ofGuard 147 = .ok (.iload 4, 2) := by decide +kernel
theorem dX11_ofGuard_149 : decode cX11_ofGuard 149 = .ok (.ifCond .eq 7, 3) := by decide +kernel
theorem dX11_ofGuard_152 : decode cX11_ofGuard 152 = .ok (.iconst 0, 1) := by decide +kernel
theorem dX11_ofGuard_153 : decode cX11_ofGuard 153 = .ok (.goto 4, 3) := by decide +kernel
theorem dX11_ofGuard_156 : decode cX11_ofGuard 156 = .ok (.iload_n 2, 1) := by decide +kernel
theorem dX11_ofGuard_157 : decode cX11_ofGuard 157 = .ok (.istore 5, 2) := by decide +kernel
theorem dX11_ofGuard_159 : decode cX11_ofGuard 159 = .ok (.aload_n 0, 1) := by decide +kernel
theorem dX11_ofGuard_160 : decode cX11_ofGuard 160 = .ok (.getfield 47, 3) := by decide +kernel
theorem dX11_ofGuard_163 : decode cX11_ofGuard 163 = .ok (.iload_n 1, 1) := by decide +kernel
theorem dX11_ofGuard_164 : decode cX11_ofGuard 164 = .ok (.iaload, 1) := by decide +kernel
theorem dX11_ofGuard_165 : decode cX11_ofGuard 165 = .ok (.ifCond .ge 16, 3) := by decide +kernel
theorem dX11_ofGuard_168 : decode cX11_ofGuard 168 = .ok (.aload_n 0, 1) := by decide +kernel
theorem dX11_ofGuard_169 : decode cX11_ofGuard 169 = .ok (.dup, 1) := by decide +kernel
theorem dX11_ofGuard_170 : decode cX11_ofGuard 170 = .ok (.getfield 228, 3) := by decide +kernel
theorem dX11_ofGuard_173 : decode cX11_ofGuard 173 = .ok (.iconst 1, 1) := by decide +kernel
theorem dX11_ofGuard_174 : decode cX11_ofGuard 174 = .ok (.isub, 1) := by decide +kernel
theorem dX11_ofGuard_175 : decode cX11_ofGuard 175 = .ok (.putfield 228, 3) := by decide +kernel
theorem dX11_ofGuard_178 : decode cX11_ofGuard 178 = .ok (.iload 5, 2) := by decide +kernel
theorem dX11_ofGuard_180 : decode cX11_ofGuard 180 = .ok (.ireturn, 1) := by decide +kernel
theorem dX11_ofGuard_181 : decode cX11_ofGuard 181 = .ok (.aload_n 0, 1) := by decide +kernel
theorem dX11_ofGuard_182 : decode cX11_ofGuard 182 = .ok (.dup, 1) := by decide +kernel
theorem dX11_ofGuard_183 : decode cX11_ofGuard 183 = .ok (.getfield 251, 3) := by decide +kernel
theorem dX11_ofGuard_186 : decode cX11_ofGuard 186 = .ok (.iconst 1, 1) := by decide +kernel
theorem dX11_ofGuard_187 : decode cX11_ofGuard 187 = .ok (.iadd, 1) := by decide +kernel
theorem dX11_ofGuard_188 : decode cX11_ofGuard 188 = .ok (.putfield 251, 3) := by decide +kernel
theorem dX11_ofGuard_191 : decode cX11_ofGuard 191 = .ok (.aload_n 0, 1) := by decide +kernel
theorem dX11_ofGuard_192 : decode cX11_ofGuard 192 = .ok (.getfield 66, 3) := by decide +kernel
theorem dX11_ofGuard_195 : decode cX11_ofGuard 195 = .ok (.aload_n 0, 1) := by decide +kernel
theorem dX11_ofGuard_196 : decode cX11_ofGuard 196 = .ok (.getfield 228, 3) := by decide +kernel
theorem dX11_ofGuard_199 : decode cX11_ofGuard 199 = .ok (.iload 5, 2) := by decide +kernel
theorem dX11_ofGuard_201 : decode cX11_ofGuard 201 = .ok (.iastore, 1) := by decide +kernel
theorem dX11_ofGuard_202 : decode cX11_ofGuard 202 = .ok (.aload_n 0, 1) := by decide +kernel
theorem dX11_ofGuard_203 : decode cX11_ofGuard 203 = .ok (.iconst 3, 1) := by decide +kernel
theorem dX11_ofGuard_204 : decode cX11_ofGuard 204 = .ok (.aload_n 0, 1) := by decide +kernel
theorem dX11_ofGuard_205 : decode cX11_ofGuard 205 = .ok (.getfield 47, 3) := by decide +kernel
theorem dX11_ofGuard_208 : decode cX11_ofGuard 208 = .ok (.iload_n 1, 1) := by decide +kernel
theorem dX11_ofGuard_209 : decode cX11_ofGuard 209 = .ok (.iaload, 1) := by decide +kernel
theorem dX11_ofGuard_210 : decode cX11_ofGuard 210 = .ok (.invokevirtual 244, 3) := by decide +kernel
theorem dX11_ofGuard_213 : decode cX11_ofGuard 213 = .ok (.iconst 0, 1) := by decide +kernel
theorem dX11_ofGuard_214 : decode cX11_ofGuard 214 = .ok (.ireturn, 1) := by decide +kernel
theorem dX11_ofOther_0 : decode cX11_ofOther 0 = .ok (.aload_n 0, 1) := by decide +kernel
theorem dX11_ofOther_1 : decode cX11_ofOther 1 = .ok (.getfield 63, 3) := by decide +kernel
theorem dX11_ofOther_4 : decode cX11_ofOther 4 = .ok (.aload_n 0, 1) := by decide +kernel
theorem dX11_ofOther_5 : decode cX11_ofOther 5 = .ok (.getfield 228, 3) := by decide +kernel
theorem dX11_ofOther_8 : decode cX11_ofOther 8 = .ok (.iaload, 1) := by decide +kernel
theorem dX11_ofOther_9 : decode cX11_ofOther 9 = .ok (.istore_n 3, 1) := by decide +kernel
theorem dX11_ofOther_10 : decode cX11_ofOther 10 = .ok (.aload_n 0, 1) := by decide +kernel
theorem dX11_ofOther_11 : decode cX11_ofOther 11 = .ok (.getfield 32, 3) := by decide +kernel
theorem dX11_ofOther_14 : decode cX11_ofOther 14 = .ok (.iload_n 1, 1) := by decide +kernel
theorem dX11_ofOther_15 : decode cX11_ofOther 15 = .ok (.iaload, 1) := by decide +kernel
theorem dX11_ofOther_16 : decode cX11_ofOther 16 = .ok (.iconst 1, 1) := by decide +kernel
theorem dX11_ofOther_17 : decode cX11_ofOther 17 = .ok (.if_icmp .ne 44, 3) := by decide +kernel
theorem dX11_ofOther_20 : decode cX11_ofOther 20 = .ok (.iload_n 3, 1) := by decide +kernel
theorem dX11_ofOther_21 : decode cX11_ofOther 21 = .ok (.ifCond .eq 12, 3) := by decide +kernel
theorem dX11_ofOther_24 : decode cX11_ofOther 24 = .ok (.iload_n 3, 1) := by decide +kernel
theorem dX11_ofOther_25 : decode cX11_ofOther 25 = .ok (.iconst 1, 1) := by decide +kernel
theorem dX11_ofOther_26 : decode cX11_ofOther 26 = .ok (.if_icmp .ne 35, 3) := by decide +kernel
theorem dX11_ofOther_29 : decode cX11_ofOther 29 = .ok (.iload_n 2, 1) := by decide +kernel
theorem dX11_ofOther_30 : decode cX11_ofOther 30 = .ok (.ifCond .ne 31, 3) := by decide +kernel
theorem dX11_ofOther_33 : decode cX11_ofOther 33 = .ok (.aload_n 0, 1) := by decide +kernel
theorem dX11_ofOther_34 : decode cX11_ofOther 34 = .ok (.iload_n 3, 1) := by decide +kernel
theorem dX11_ofOther_35 : decode cX11_ofOther 35 = .ok (.iconst 1, 1) := by decide +kernel
theorem dX11_ofOther_36 : decode cX11_ofOther 36 = .ok (.iadd, 1) := by decide +kernel
theorem dX11_ofOther_37 : decode cX11_ofOther 37 = .ok (.iload_n 3, 1) := by decide +kernel
theorem dX11_ofOther_38 : decode cX11_ofOther 38 = .ok (.ifCond .ne 12, 3) := by decide +kernel
theorem dX11_ofOther_41 : decode cX11_ofOther 41 = .ok (.aload_n 0, 1) := by decide +kernel
theorem dX11_ofOther_42 : decode cX11_ofOther 42 = .ok (.getfield 38, 3) := by decide +kernel
theorem dX11_ofOther_45 : decode cX11_ofOther 45 = .ok (.iload_n 1, 1) := by decide +kernel
theorem dX11_ofOther_46 : decode cX11_ofOther 46 = .ok (.iaload, 1) := by decide +kernel
theorem dX11_ofOther_47 : decode cX11_ofOther 47 = .ok (.goto 9, 3) := by decide +kernel
theorem dX11_ofOther_50 : decode cX11_ofOther 50 = .ok (.aload_n 0, 1) := by decide +kernel
theorem dX11_ofOther_51 : decode cX11_ofOther 51 = .ok (.getfield 41, 3) := by decide +kernel
theorem dX11_ofOther_54 : decode cX11_ofOther 54 = .ok (.iload_n 1, 1) := by decide +kernel
theorem dX11_ofOther_55 : decode cX11_ofOther 55 = .ok (.iaload, 1) := by decide +kernel
theorem dX11_ofOther_56 : decode cX11_ofOther 56 = .ok (.invokevirtual 244, 3) := by decide +kernel
theorem dX11_ofOther_59 : decode cX11_ofOther 59 = .ok (.iconst 0, 1) := by decide +kernel
theorem dX11_ofOther_60 : decode cX11_ofOther 60 = .ok (.ireturn, 1) := by decide +kernel
theorem dX11_ofOther_61 : decode cX11_ofOther 61 = .ok (.aload_n 0, 1) := by decide +kernel
theorem dX11_ofOther_62 : decode cX11_ofOther 62 = .ok (.getfield 32, 3) := by decide +kernel
theorem dX11_ofOther_65 : decode cX11_ofOther 65 = .ok (.iload_n 1, 1) := by decide +kernel
theorem dX11_ofOther_66 : decode cX11_ofOther 66 = .ok (.iaload, 1) := by decide +kernel
theorem dX11_ofOther_67 : decode cX11_ofOther 67 = .ok (.iconst 2, 1) := by decide +kernel
theorem dX11_ofOther_68 : decode cX11_ofOther 68 = .ok (.if_icmp .ne 96, 3) := by decide +kernel
theorem dX11_ofOther_71 : decode cX11_ofOther 71 = .ok (.iload_n 3, 1) := by decide +kernel
theorem dX11_ofOther_72 : decode cX11_ofOther 72 = .ok (.ifCond .ne 92, 3) := by decide +kernel
theorem dX11_ofOther_75 : decode cX11_ofOther 75 = .ok (.aload_n 0, 1) := by decide +kernel
theorem dX11_ofOther_76 : decode cX11_ofOther 76 = .ok (.getfield 26, 3) := by decide +kernel
theorem dX11_ofOther_79 : decode cX11_ofOther 79 = .ok (.aload_n 0, 1) := by decide +kernel
theorem dX11_ofOther_80 : decode cX11_ofOther 80 = .ok (.getfield 38, 3) := by decide +kernel
theorem dX11_ofOther_83 : decode cX11_ofOther 83 = .ok (.iload_n 1, 1) := by decide +kernel
theorem dX11_ofOther_84 : decode cX11_ofOther 84 = .ok (.iaload, 1) := by decide +kernel
theorem dX11_ofOther_85 : decode cX11_ofOther 85 = .ok (.iaload, 1) := by decide +kernel
theorem dX11_ofOther_86 : decode cX11_ofOther 86 = .ok (.istore 4, 2) := by decide +kernel
theorem dX11_ofOther_88 : decode cX11_ofOther 88 = .ok (.aload_n 0, 1) := by decide +kernel
theorem dX11_ofOther_89 : decode cX11_ofOther 89 = .ok (.getfield 41, 3) := by decide +kernel
theorem dX11_ofOther_92 : decode cX11_ofOther 92 = .ok (.iload_n 1, 1) := by decide +kernel
theorem dX11_ofOther_93 : decode cX11_ofOther 93 = .ok (.iaload, 1) := by decide +kernel
theorem dX11_ofOther_94 : decode cX11_ofOther 94 = .ok (.ifCond .ne 16, 3) := by decide +kernel
theorem dX11_ofOther_97 : decode cX11_ofOther 97 = .ok (.iload 4, 2) := by decide +kernel
theorem dX11_ofOther_99 : decode cX11_ofOther 99 = .ok (.ifCond .ne 7, 3) := by decide +kernel
theorem dX11_ofOther_102 : decode cX11_ofOther 102 = .ok (.iconst 1, 1) := by decide +kernel
theorem dX11_ofOther_103 : decode cX11_ofOther 103 = .ok (.goto 32, 3) := by decide +kernel
theorem dX11_ofOther_106 : decode cX11_ofOther 106 = .ok (.iconst 0, 1) := by decide +kernel
theorem dX11_ofOther_107 : decode cX11_ofOther 107 = .ok (.goto 28, 3) := by decide +kernel
theorem dX11_ofOther_110 : decode cX11_ofOther 110 = .ok (.iload 4, 2) := by decide +kernel
theorem dX11_ofOther_112 : decode cX11_ofOther 112 = .ok (.ifCond .eq 22, 3) := by decide +kernel
theorem dX11_ofOther_115 : decode cX11_ofOther 115 = .ok (.aload_n 0, 1) := by decide +kernel
theorem dX11_ofOther_116 : decode cX11_ofOther 116 = .ok (.iload 4, 2) := by decide +kernel
theorem dX11_ofOther_118 : decode cX11_ofOther 118 = .ok (.aload_n 0, 1) := by decide +kernel
theorem dX11_ofOther_119 : decode cX11_ofOther 119 = .ok (.getfield 41, 3) := by decide +kernel
theorem dX11_ofOther_122 : decode cX11_ofOther 122 = .ok (.iload_n 1, 1) := by decide +kernel
theorem dX11_ofOther_123 : decode cX11_ofOther 123 = .ok (.iaload, 1) := by decide +kernel
theorem dX11_ofOther_124 : decode cX11_ofOther 124 = .ok (.invokevirtual 146, 3) := by decide +kernel
theorem dX11_ofOther_127 : decode cX11_ofOther 127 = .ok (.ifCond .eq 7, 3) := by decide +kernel
theorem dX11_ofOther_130 : decode cX11_ofOther 130 = .ok (.iconst 1, 1) := by decide +kernel
theorem dX11_ofOther_131 : decode cX11_ofOther 131 = .ok (.goto 4, 3) := by decide +kernel
theorem dX11_ofOther_134 : decode cX11_ofOther 134 = .ok (.iconst 0, 1) := by decide +kernel
theorem dX11_ofOther_135 : decode cX11_ofOther 135 = .ok (.istore 5, 2) := by decide +kernel
theorem dX11_ofOther_137 : decode cX11_ofOther 137 = .ok (.aload_n 0, 1) := by decide +kernel
theorem dX11_ofOther_138 : decode cX11_ofOther 138 = .ok (.iconst 1, 1) := by decide +kernel
theorem dX11_ofOther_139 : decode cX11_ofOther 139 = .ok (.iload 5, 2) := by decide +kernel
theorem dX11_ofOther_141 : decode cX11_ofOther 141 = .ok (.ifCond .eq 12, 3) := by decide +kernel
theorem dX11_ofOther_144 : decode cX11_ofOther 144 = .ok (.aload_n 0, 1) := by decide +kernel
theorem dX11_ofOther_145 : decode cX11_ofOther 145 = .ok (.getfield 44, 3) := by decide +kernel
theorem dX11_ofOther_148 : decode cX11_ofOther 148 = .ok (.iload_n 1, 1) := by decide +kernel
theorem dX11_ofOther_149 : decode cX11_ofOther 149 = .ok (.iaload, 1) := by decide +kernel
theorem dX11_ofOther_150 : decode cX11_ofOther 150 = .ok (.goto 9, 3) := by decide +kernel
theorem dX11_ofOther_153 : decode cX11_ofOther 153 = .ok (.aload_n 0, 1) := by decide +kernel
theorem dX11_ofOther_154 : decode cX11_ofOther 154 = .ok (.getfield 47, 3) := by decide +kernel
theorem dX11_ofOther_157 : decode cX11_ofOther 157 = .ok (.iload_n 1, 1) := by decide +kernel
theorem dX11_ofOther_158 : decode cX11_ofOther 158 = .ok (.iaload, 1) := by decide +kernel
theorem dX11_ofOther_159 : decode cX11_ofOther 159 = .ok (.invokevirtual 244, 3) := by decide +kernel
theorem dX11_ofOther_162 : decode cX11_ofOther 162 = .ok (.iconst 0, 1) := by decide +kernel
theorem dX11_ofOther_163 : decode cX11_ofOther 163 = .ok (.ireturn, 1) := by decide +kernel
theorem dX11_ofOther_164 : decode cX11_ofOther 164 = .ok (.aload_n 0, 1) := by decide +kernel
theorem dX11_ofOther_165 : decode cX11_ofOther 165 = .ok (.dup, 1) := by decide +kernel
theorem dX11_ofOther_166 : decode cX11_ofOther 166 = .ok (.getfield 228, 3) := by decide +kernel
theorem dX11_ofOther_169 : decode cX11_ofOther 169 = .ok (.iconst 1, 1) := by decide +kernel
theorem dX11_ofOther_170 : decode cX11_ofOther 170 = .ok (.isub, 1) := by decide +kernel
theorem dX11_ofOther_171 : decode cX11_ofOther 171 = .ok (.putfield 228, 3) := by decide +kernel
theorem dX11_ofOther_174 : decode cX11_ofOther 174 = .ok (.iload_n 2, 1) := by decide +kernel
theorem dX11_ofOther_175 : decode cX11_ofOther 175 = .ok (.ireturn, 1) := by decide +kernel
theorem dX11_goes_0 : decode cX11_goes 0 = .ok (.aload_n 0, 1) := by decide +kernel
theorem dX11_goes_1 : decode cX11_goes 1 = .ok (.iconst (-1), 1) := by decide +kernel
theorem dX11_goes_2 : decode cX11_goes 2 = .ok (.putfield 228, 3) := by decide +kernel
theorem dX11_goes_5 : decode cX11_goes 5 = .ok (.aload_n 0, 1) := by decide +kernel
theorem dX11_goes_6 : decode cX11_goes 6 = .ok (.iload_n 1, 1) := by decide +kernel
theorem dX11_goes_7 : decode cX11_goes 7 = .ok (.invokevirtual 231, 3) := by decide +kernel
theorem dX11_goes_10 : decode cX11_goes 10 = .ok (.iconst 0, 1) := by decide +kernel
theorem dX11_goes_11 : decode cX11_goes 11 = .ok (.istore_n 2, 1) := by decide +kernel
theorem dX11_goes_12 : decode cX11_goes 12 = .ok (.aload_n 0, 1) := by decide +kernel
theorem dX11_goes_13 : decode cX11_goes 13 = .ok (.getfield 228, 3) := by decide +kernel
theorem dX11_goes_16 : decode cX11_goes 16 = .ok (.ifCond .lt 59, 3) := by decide +kernel
theorem dX11_goes_19 : decode cX11_goes 19 = .ok (.aload_n 0, 1) := by decide +kernel
theorem dX11_goes_20 : decode cX11_goes 20 = .ok (.getfield 60, 3) := by decide +kernel
theorem dX11_goes_23 : decode cX11_goes 23 = .ok (.aload_n 0, 1) := by decide +kernel
theorem dX11_goes_24 : decode cX11_goes 24 = .ok (.getfield 228, 3) := by decide +kernel
theorem dX11_goes_27 : decode cX11_goes 27 = .ok (.iaload, 1) := by decide +kernel
theorem dX11_goes_28 : decode cX11_goes 28 = .ok (.istore_n 3, 1) := by decide +kernel
theorem dX11_goes_29 : decode cX11_goes 29 = .ok (.aload_n 0, 1) := by decide +kernel
theorem dX11_goes_30 : decode cX11_goes 30 = .ok (.getfield 32, 3) := by decide +kernel
theorem dX11_goes_33 : decode cX11_goes 33 = .ok (.iload_n 3, 1) := by decide +kernel
theorem dX11_goes_34 : decode cX11_goes 34 = .ok (.iaload, 1) := by decide +kernel
theorem dX11_goes_35 : decode cX11_goes 35 = .ok (.ifCond .ne 11, 3) := by decide +kernel
theorem dX11_goes_38 : decode cX11_goes 38 = .ok (.aload_n 0, 1) := by decide +kernel
theorem dX11_goes_39 : decode cX11_goes 39 = .ok (.iload_n 3, 1) := by decide +kernel
theorem dX11_goes_40 : decode cX11_goes 40 = .ok (.invokevirtual 254, 3) := by decide +kernel
theorem dX11_goes_43 : decode cX11_goes 43 = .ok (.goto 28, 3) := by decide +kernel
theorem dX11_goes_46 : decode cX11_goes 46 = .ok (.aload_n 0, 1) := by decide +kernel
theorem dX11_goes_47 : decode cX11_goes 47 = .ok (.getfield 32, 3) := by decide +kernel
theorem dX11_goes_50 : decode cX11_goes 50 = .ok (.iload_n 3, 1) := by decide +kernel
theorem dX11_goes_51 : decode cX11_goes 51 = .ok (.iaload, 1) := by decide +kernel
theorem dX11_goes_52 : decode cX11_goes 52 = .ok (.iconst 3, 1) := by decide +kernel
theorem dX11_goes_53 : decode cX11_goes 53 = .ok (.if_icmp .ne 12, 3) := by decide +kernel
theorem dX11_goes_56 : decode cX11_goes 56 = .ok (.aload_n 0, 1) := by decide +kernel
theorem dX11_goes_57 : decode cX11_goes 57 = .ok (.iload_n 3, 1) := by decide +kernel
theorem dX11_goes_58 : decode cX11_goes 58 = .ok (.iload_n 2, 1) := by decide +kernel
theorem dX11_goes_59 : decode cX11_goes 59 = .ok (.invokevirtual 257, 3) := by decide +kernel
theorem dX11_goes_62 : decode cX11_goes 62 = .ok (.goto 9, 3) := by decide +kernel
theorem dX11_goes_65 : decode cX11_goes 65 = .ok (.aload_n 0, 1) := by decide +kernel
theorem dX11_goes_66 : decode cX11_goes 66 = .ok (.iload_n 3, 1) := by decide +kernel
theorem dX11_goes_67 : decode cX11_goes 67 = .ok (.iload_n 2, 1) := by decide +kernel
theorem dX11_goes_68 : decode cX11_goes 68 = .ok (.invokevirtual 260, 3) := by decide +kernel
theorem dX11_goes_71 : decode cX11_goes 71 = .ok (.istore_n 2, 1) := by decide +kernel
theorem dX11_goes_72 : decode cX11_goes 72 = .ok (.goto (-60), 3) := by decide +kernel
theorem dX11_goes_75 : decode cX11_goes 75 = .ok (.iload_n 2, 1) := by decide +kernel
theorem dX11_goes_76 : decode cX11_goes 76 = .ok (.ireturn, 1) := by decide +kernel
theorem dX11_run_0 : decode cX11_run 0 = .ok (.aload_n 0, 1) := by decide +kernel
theorem dX11_run_1 : decode cX11_run 1 = .ok (.iload_n 1, 1) := by decide +kernel
theorem dX11_run_2 : decode cX11_run 2 = .ok (.invokevirtual 139, 3) := by decide +kernel
theorem dX11_run_5 : decode cX11_run 5 = .ok (.ifCond .ne 5, 3) := by decide +kernel
theorem dX11_run_8 : decode cX11_run 8 = .ok (.iconst (-1), 1) := by decide +kernel
theorem dX11_run_9 : decode cX11_run 9 = .ok (.ireturn, 1) := by decide +kernel
theorem dX11_run_10 : decode cX11_run 10 = .ok (.aload_n 0, 1) := by decide +kernel
theorem dX11_run_11 : decode cX11_run 11 = .ok (.iconst 0, 1) := by decide +kernel
theorem dX11_run_12 : decode cX11_run 12 = .ok (.putfield 235, 3) := by decide +kernel
theorem dX11_run_15 : decode cX11_run 15 = .ok (.aload_n 0, 1) := by decide +kernel
theorem dX11_run_16 : decode cX11_run 16 = .ok (.iconst 0, 1) := by decide +kernel
theorem dX11_run_17 : decode cX11_run 17 = .ok (.putfield 241, 3) := by decide +kernel
theorem dX11_run_20 : decode cX11_run 20 = .ok (.aload_n 0, 1) := by decide +kernel
theorem dX11_run_21 : decode cX11_run 21 = .ok (.iconst 0, 1) := by decide +kernel
theorem dX11_run_22 : decode cX11_run 22 = .ok (.putfield 177, 3) := by decide +kernel
theorem dX11_run_25 : decode cX11_run 25 = .ok (.aload_n 0, 1) := by decide +kernel
theorem dX11_run_26 : decode cX11_run 26 = .ok (.iconst 0, 1) := by decide +kernel
theorem dX11_run_27 : decode cX11_run 27 = .ok (.putfield 251, 3) := by decide +kernel
theorem dX11_run_30 : decode cX11_run 30 = .ok (.aload_n 0, 1) := by decide +kernel
theorem dX11_run_31 : decode cX11_run 31 = .ok (.iconst 0, 1) := by decide +kernel
theorem dX11_run_32 : decode cX11_run 32 = .ok (.putfield 248, 3) := by decide +kernel
theorem dX11_run_35 : decode cX11_run 35 = .ok (.aload_n 0, 1) := by decide +kernel
theorem dX11_run_36 : decode cX11_run 36 = .ok (.iconst (-1), 1) := by decide +kernel
theorem dX11_run_37 : decode cX11_run 37 = .ok (.putfield 53, 3) := by decide +kernel
theorem dX11_run_40 : decode cX11_run 40 = .ok (.aload_n 0, 1) := by decide +kernel
theorem dX11_run_41 : decode cX11_run 41 = .ok (.iload_n 1, 1) := by decide +kernel
theorem dX11_run_42 : decode cX11_run 42 = .ok (.invokevirtual 263, 3) := by decide +kernel
theorem dX11_run_45 : decode cX11_run 45 = .ok (.ireturn, 1) := by decide +kernel
theorem dX11_ran_0 : decode cX11_ran 0 = .ok (.iload_n 1, 1) := by decide +kernel
theorem dX11_ran_1 : decode cX11_ran 1 = .ok (.tableswitch 69 0 5 #[39, 44, 49, 54, 59, 64], 39) := by decide +kernel
theorem dX11_ran_40 : decode cX11_ran 40 = .ok (.aload_n 0, 1) := by decide +kernel
theorem dX11_ran_41 : decode cX11_ran 41 = .ok (.getfield 235, 3) := by decide +kernel
theorem dX11_ran_44 : decode cX11_ran 44 = .ok (.ireturn, 1) := by decide +kernel
theorem dX11_ran_45 : decode cX11_ran 45 = .ok (.aload_n 0, 1) := by decide +kernel
theorem dX11_ran_46 : decode cX11_ran 46 = .ok (.getfield 241, 3) := by decide +kernel
theorem dX11_ran_49 : decode cX11_ran 49 = .ok (.ireturn, 1) := by decide +kernel
theorem dX11_ran_50 : decode cX11_ran 50 = .ok (.aload_n 0, 1) := by decide +kernel
theorem dX11_ran_51 : decode cX11_ran 51 = .ok (.getfield 177, 3) := by decide +kernel
theorem dX11_ran_54 : decode cX11_ran 54 = .ok (.ireturn, 1) := by decide +kernel
theorem dX11_ran_55 : decode cX11_ran 55 = .ok (.aload_n 0, 1) := by decide +kernel
theorem dX11_ran_56 : decode cX11_ran 56 = .ok (.getfield 251, 3) := by decide +kernel
theorem dX11_ran_59 : decode cX11_ran 59 = .ok (.ireturn, 1) := by decide +kernel
theorem dX11_ran_60 : decode cX11_ran 60 = .ok (.aload_n 0, 1) := by decide +kernel
theorem dX11_ran_61 : decode cX11_ran 61 = .ok (.getfield 248, 3) := by decide +kernel
theorem dX11_ran_64 : decode cX11_ran 64 = .ok (.ireturn, 1) := by decide +kernel
theorem dX11_ran_65 : decode cX11_ran 65 = .ok (.aload_n 0, 1) := by decide +kernel
theorem dX11_ran_66 : decode cX11_ran 66 = .ok (.getfield 53, 3) := by decide +kernel
theorem dX11_ran_69 : decode cX11_ran 69 = .ok (.ireturn, 1) := by decide +kernel
theorem dX11_ran_70 : decode cX11_ran 70 = .ok (.iconst (-1), 1) := by decide +kernel
theorem dX11_ran_71 : decode cX11_ran 71 = .ok (.ireturn, 1) := by decide +kernel
theorem dX11_clear_0 : decode cX11_clear 0 = .ok (.aload_n 0, 1) := by decide +kernel
theorem dX11_clear_1 : decode cX11_clear 1 = .ok (.getfield 111, 3) := by decide +kernel
theorem dX11_clear_4 : decode cX11_clear 4 = .ok (.istore_n 1, 1) := by decide +kernel
theorem dX11_clear_5 : decode cX11_clear 5 = .ok (.aload_n 0, 1) := by decide +kernel
theorem dX11_clear_6 : decode cX11_clear 6 = .ok (.iconst 0, 1) := by decide +kernel
theorem dX11_clear_7 : decode cX11_clear 7 = .ok (.putfield 111, 3) := by decide +kernel
theorem dX11_clear_10 : decode cX11_clear 10 = .ok (.aload_n 0, 1) := by decide +kernel
theorem dX11_clear_11 : decode cX11_clear 11 = .ok (.iconst 0, 1) := by decide +kernel
theorem dX11_clear_12 : decode cX11_clear 12 = .ok (.putfield 114, 3) := by decide +kernel
theorem dX11_clear_15 : decode cX11_clear 15 = .ok (.iconst 0, 1) := by decide +kernel
theorem dX11_clear_16 : decode cX11_clear 16 = .ok (.istore_n 2, 1) := by decide +kernel
theorem dX11_clear_17 : decode cX11_clear 17 = .ok (.iload_n 2, 1) := by decide +kernel
theorem dX11_clear_18 : decode cX11_clear 18 = .ok (.bipush 12, 2) := by decide +kernel
theorem dX11_clear_20 : decode cX11_clear 20 = .ok (.if_icmp .ge 16, 3) := by decide +kernel
theorem dX11_clear_23 : decode cX11_clear 23 = .ok (.aload_n 0, 1) := by decide +kernel
theorem dX11_clear_24 : decode cX11_clear 24 = .ok (.getfield 26, 3) := by decide +kernel
theorem dX11_clear_27 : decode cX11_clear 27 = .ok (.iload_n 2, 1) := by decide +kernel
theorem dX11_clear_28 : decode cX11_clear 28 = .ok (.iconst 0, 1) := by decide +kernel
theorem dX11_clear_29 : decode cX11_clear 29 = .ok (.iastore, 1) := by decide +kernel
theorem dX11_clear_30 : decode cX11_clear 30 = .ok (.iinc 2 1, 3) := by decide +kernel
theorem dX11_clear_33 : decode cX11_clear 33 = .ok (.goto (-16), 3) := by decide +kernel
theorem dX11_clear_36 : decode cX11_clear 36 = .ok (.iconst 0, 1) := by decide +kernel
theorem dX11_clear_37 : decode cX11_clear 37 = .ok (.istore_n 2, 1) := by decide +kernel
theorem dX11_clear_38 : decode cX11_clear 38 = .ok (.iload_n 2, 1) := by decide +kernel
theorem dX11_clear_39 : decode cX11_clear 39 = .ok (.bipush 8, 2) := by decide +kernel
theorem dX11_clear_41 : decode cX11_clear 41 = .ok (.if_icmp .ge 16, 3) := by decide +kernel
theorem dX11_clear_44 : decode cX11_clear 44 = .ok (.aload_n 0, 1) := by decide +kernel
theorem dX11_clear_45 : decode cX11_clear 45 = .ok (.getfield 29, 3) := by decide +kernel
theorem dX11_clear_48 : decode cX11_clear 48 = .ok (.iload_n 2, 1) := by decide +kernel
theorem dX11_clear_49 : decode cX11_clear 49 = .ok (.lconst 0, 1) := by decide +kernel
theorem dX11_clear_50 : decode cX11_clear 50 = .ok (.lastore, 1) := by decide +kernel
theorem dX11_clear_51 : decode cX11_clear 51 = .ok (.iinc 2 1, 3) := by decide +kernel
theorem dX11_clear_54 : decode cX11_clear 54 = .ok (.goto (-16), 3) := by decide +kernel
theorem dX11_clear_57 : decode cX11_clear 57 = .ok (.iload_n 1, 1) := by decide +kernel
theorem dX11_clear_58 : decode cX11_clear 58 = .ok (.ireturn, 1) := by decide +kernel
theorem dX11_count_0 : decode cX11_count 0 = .ok (.iload_n 1, 1) := by decide +kernel
theorem dX11_count_1 : decode cX11_count 1 = .ok (.ifCond .ne 10, 3) := by decide +kernel
theorem dX11_count_4 : decode cX11_count 4 = .ok (.aload_n 0, 1) := by decide +kernel
theorem dX11_count_5 : decode cX11_count 5 = .ok (.getfield 111, 3) := by decide +kernel
theorem dX11_count_8 : decode cX11_count 8 = .ok (.goto 58, 3) := by decide +kernel
theorem dX11_count_11 : decode cX11_count 11 = .ok (.iload_n 1, 1) := by decide +kernel
theorem dX11_count_12 : decode cX11_count 12 = .ok (.iconst 1, 1) := by decide +kernel
theorem dX11_count_13 : decode cX11_count 13 = .ok (.if_icmp .ne 10, 3) := by decide +kernel
theorem dX11_count_16 : decode cX11_count 16 = .ok (.aload_n 0, 1) := by decide +kernel
theorem dX11_count_17 : decode cX11_count 17 = .ok (.getfield 114, 3) := by decide +kernel
theorem dX11_count_20 : decode cX11_count 20 = .ok (.goto 46, 3) := by decide +kernel
theorem dX11_count_23 : decode cX11_count 23 = .ok (.iload_n 1, 1) := by decide +kernel
theorem dX11_count_24 : decode cX11_count 24 = .ok (.iconst 2, 1) := by decide +kernel
theorem dX11_count_25 : decode cX11_count 25 = .ok (.if_icmp .ne 10, 3) := by decide +kernel
theorem dX11_count_28 : decode cX11_count 28 = .ok (.aload_n 0, 1) := by decide +kernel
theorem dX11_count_29 : decode cX11_count 29 = .ok (.getfield 121, 3) := by decide +kernel
theorem dX11_count_32 : decode cX11_count 32 = .ok (.goto 34, 3) := by decide +kernel
theorem dX11_count_35 : decode cX11_count 35 = .ok (.iload_n 1, 1) := by decide +kernel
theorem dX11_count_36 : decode cX11_count 36 = .ok (.iconst 3, 1) := by decide +kernel
theorem dX11_count_37 : decode cX11_count 37 = .ok (.if_icmp .ne 28, 3) := by decide +kernel
theorem dX11_count_40 : decode cX11_count 40 = .ok (.aload_n 0, 1) := by decide +kernel
theorem dX11_count_41 : decode cX11_count 41 = .ok (.getfield 121, 3) := by decide +kernel
theorem dX11_count_44 : decode cX11_count 44 = .ok (.ifCond .ne 7, 3) := by decide +kernel
theorem dX11_count_47 : decode cX11_count 47 = .ok (.iconst 0, 1) := by decide +kernel
theorem dX11_count_48 : decode cX11_count 48 = .ok (.goto 18, 3) := by decide +kernel
theorem dX11_count_51 : decode cX11_count 51 = .ok (.aload_n 0, 1) := by decide +kernel
theorem dX11_count_52 : decode cX11_count 52 = .ok (.getfield 50, 3) := by decide +kernel
theorem dX11_count_55 : decode cX11_count 55 = .ok (.aload_n 0, 1) := by decide +kernel
theorem dX11_count_56 : decode cX11_count 56 = .ok (.getfield 121, 3) := by decide +kernel
theorem dX11_count_59 : decode cX11_count 59 = .ok (.iconst 1, 1) := by decide +kernel
theorem dX11_count_60 : decode cX11_count 60 = .ok (.isub, 1) := by decide +kernel
theorem dX11_count_61 : decode cX11_count 61 = .ok (.iaload, 1) := by decide +kernel
theorem dX11_count_62 : decode cX11_count 62 = .ok (.goto 4, 3) := by decide +kernel
theorem dX11_count_65 : decode cX11_count 65 = .ok (.iconst (-1), 1) := by decide +kernel
theorem dX11_count_66 : decode cX11_count 66 = .ok (.ireturn, 1) := by decide +kernel
theorem dX11_slot_0 : decode cX11_slot 0 = .ok (.iload_n 1, 1) := by decide +kernel
theorem dX11_slot_1 : decode cX11_slot 1 = .ok (.invokestatic 124, 3) := by decide +kernel
theorem dX11_slot_4 : decode cX11_slot 4 = .ok (.ifCond .eq 12, 3) := by decide +kernel
theorem dX11_slot_7 : decode cX11_slot 7 = .ok (.iload_n 2, 1) := by decide +kernel
theorem dX11_slot_8 : decode cX11_slot 8 = .ok (.iconst 0, 1) := by decide +kernel
theorem dX11_slot_9 : decode cX11_slot 9 = .ok (.iconst 2, 1) := by decide +kernel
theorem dX11_slot_10 : decode cX11_slot 10 = .ok (.invokestatic 103, 3) := by decide +kernel
theorem dX11_slot_13 : decode cX11_slot 13 = .ok (.ifCond .ne 5, 3) := by decide +kernel
theorem dX11_slot_16 : decode cX11_slot 16 = .ok (.iconst (-1), 1) := by decide +kernel
theorem dX11_slot_17 : decode cX11_slot 17 = .ok (.ireturn, 1) := by decide +kernel
theorem dX11_slot_18 : decode cX11_slot 18 = .ok (.aload_n 0, 1) := by decide +kernel
theorem dX11_slot_19 : decode cX11_slot 19 = .ok (.getfield 26, 3) := by decide +kernel
theorem dX11_slot_22 : decode cX11_slot 22 = .ok (.iload_n 1, 1) := by decide +kernel
theorem dX11_slot_23 : decode cX11_slot 23 = .ok (.iaload, 1) := by decide +kernel
theorem dX11_slot_24 : decode cX11_slot 24 = .ok (.istore_n 3, 1) := by decide +kernel
theorem dX11_slot_25 : decode cX11_slot 25 = .ok (.iload_n 2, 1) := by decide +kernel
theorem dX11_slot_26 : decode cX11_slot 26 = .ok (.ifCond .ne 7, 3) := by decide +kernel
theorem dX11_slot_29 : decode cX11_slot 29 = .ok (.iload_n 3, 1) := by decide +kernel
theorem dX11_slot_30 : decode cX11_slot 30 = .ok (.goto 51, 3) := by decide +kernel
theorem dX11_slot_33 : decode cX11_slot 33 = .ok (.iload_n 3, 1) := by decide +kernel
theorem dX11_slot_34 : decode cX11_slot 34 = .ok (.ifCond .ne 7, 3) := by decide +kernel
theorem dX11_slot_37 : decode cX11_slot 37 = .ok (.iconst 0, 1) := by decide +kernel
theorem dX11_slot_38 : decode cX11_slot 38 = .ok (.goto 43, 3) := by decide +kernel
theorem dX11_slot_41 : decode cX11_slot 41 = .ok (.iload_n 2, 1) := by decide +kernel
theorem dX11_slot_42 : decode cX11_slot 42 = .ok (.iconst 1, 1) := by decide +kernel
theorem dX11_slot_43 : decode cX11_slot 43 = .ok (.if_icmp .ne 12, 3) := by decide +kernel
theorem dX11_slot_46 : decode cX11_slot 46 = .ok (.aload_n 0, 1) := by decide +kernel
theorem dX11_slot_47 : decode cX11_slot 47 = .ok (.getfield 7, 3) := by decide +kernel
theorem dX11_slot_50 : decode cX11_slot 50 = .ok (.iload_n 3, 1) := by decide +kernel
theorem dX11_slot_51 : decode cX11_slot 51 = .ok (.iaload, 1) := by decide +kernel
theorem dX11_slot_52 : decode cX11_slot 52 = .ok (.goto 29, 3) := by decide +kernel
theorem dX11_slot_55 : decode cX11_slot 55 = .ok (.aload_n 0, 1) := by decide +kernel
theorem dX11_slot_56 : decode cX11_slot 56 = .ok (.getfield 7, 3) := by decide +kernel
theorem dX11_slot_59 : decode cX11_slot 59 = .ok (.iload_n 3, 1) := by decide +kernel
theorem dX11_slot_60 : decode cX11_slot 60 = .ok (.iaload, 1) := by decide +kernel
theorem dX11_slot_61 : decode cX11_slot 61 = .ok (.bipush 8, 2) := by decide +kernel
theorem dX11_slot_63 : decode cX11_slot 63 = .ok (.if_icmp .ge 12, 3) := by decide +kernel
theorem dX11_slot_66 : decode cX11_slot 66 = .ok (.aload_n 0, 1) := by decide +kernel
theorem dX11_slot_67 : decode cX11_slot 67 = .ok (.getfield 16, 3) := by decide +kernel
theorem dX11_slot_70 : decode cX11_slot 70 = .ok (.iload_n 3, 1) := by decide +kernel
